def q_X8_thrown (h : zH) (a_0 : Nat) : Option Int := some (h.1 a_0 0)
theorem cq_X8_thrown (w : zW) (l : Launch) (h : zH) (a_0 : Nat) : zCp w l yX8_thrown cX8_thrown 1 (some .int) 0 0 [.inr (8, a_0)] h qI (q_X8_thrown h a_0) := by
  refine zCp.of (own := RX8) (loc := [some (.inr (8, a_0))]) (by decide) rfl (Nat.le_of_ble_eq_true rfl) (fun k v hk => ?_) ?_
  · exact zloc_ok 0 rfl hk
  intro p e s m args below meth c C Z1 Z2
  unfold q_X8_thrown
  refine p_aload_n C dX8_thrown_0 rfl ?_
  refine p_getI C dX8_thrown_1 fl8_47 rfl ?_
  exact p_iret C Z1 Z2 dX8_thrown_4
def q_X8_feed_L24 (a0 : Nat) (i1 : Int) (i2 : Int) (i3 : Int) (i4 : Int) (i5 : Int) (k : Int → zH → Option (Int × zH)) : Nat → Int → zH → Option (Int × zH)
  | 0, _, _ => none
  | n + 1, i6, h => if 20 ≤ i6 then (k i6 h) else (if 4 ≤ i6 then (if 8 ≤ i6 then (if 12 ≤ i6 then (if 16 ≤ i6 then (zgz 4 (zgi 1000 (zw (h.1 a0 2 + i6)) (zlet (zput h (h.2 a0 1) (zw (h.1 a0 2 + i6)).toNat (zand (zshr i5 (zw (24 - zw (8 * i6.tmod 4)))) 255)) (fun h2 => zlet (zw (i6 + 1)) (fun x3 => q_X8_feed_L24 a0 i1 i2 i3 i4 i5 k n x3 h2))))) else (zgz 4 (zgi 1000 (zw (h.1 a0 2 + i6)) (zlet (zput h (h.2 a0 1) (zw (h.1 a0 2 + i6)).toNat (zand (zshr i4 (zw (24 - zw (8 * i6.tmod 4)))) 255)) (fun h4 => zlet (zw (i6 + 1)) (fun x5 => q_X8_feed_L24 a0 i1 i2 i3 i4 i5 k n x5 h4)))))) else (zgz 4 (zgi 1000 (zw (h.1 a0 2 + i6)) (zlet (zput h (h.2 a0 1) (zw (h.1 a0 2 + i6)).toNat (zand (zshr i3 (zw (24 - zw (8 * i6.tmod 4)))) 255)) (fun h6 => zlet (zw (i6 + 1)) (fun x7 => q_X8_feed_L24 a0 i1 i2 i3 i4 i5 k n x7 h6)))))) else (zgz 4 (zgi 1000 (zw (h.1 a0 2 + i6)) (zlet (zput h (h.2 a0 1) (zw (h.1 a0 2 + i6)).toNat (zand (zshr i2 (zw (24 - zw (8 * i6.tmod 4)))) 255)) (fun h8 => zlet (zw (i6 + 1)) (fun x9 => q_X8_feed_L24 a0 i1 i2 i3 i4 i5 k n x9 h8)))))) else (zgz 4 (zgi 1000 (zw (h.1 a0 2 + i6)) (zlet (zput h (h.2 a0 1) (zw (h.1 a0 2 + i6)).toNat (zand (zshr i1 (zw (24 - zw (8 * i6.tmod 4)))) 255)) (fun h10 => zlet (zw (i6 + 1)) (fun x11 => q_X8_feed_L24 a0 i1 i2 i3 i4 i5 k n x11 h10))))))
def q_X8_feed (h : zH) (a_0 : Nat) (x_1 : Int) (x_2 : Int) (x_3 : Int) (x_4 : Int) (x_5 : Int) : Option (Int × zH) := zlet (zput h a_0 0 0) (fun h1 => if zw (h1.1 a_0 2 + 20) ≤ 1000 then (q_X8_feed_L24 a_0 x_1 x_2 x_3 x_4 x_5 (fun x12 h13 => zlet (zput h13 a_0 2 (zw (h13.1 a_0 2 + 20))) (fun h15 => some (h15.1 a_0 2, h15))) zF 0 h1) else (some ((-3), h1)))
theorem cq_X8_feed (w : zW) (l : Launch) (h : zH) (a_0 : Nat) (x_1 : Int) (x_2 : Int) (x_3 : Int) (x_4 : Int) (x_5 : Int) : zCq w l yX8_feed cX8_feed 8 (some .int) 0 0 [.inr (8, a_0), .inl x_1, .inl x_2, .inl x_3, .inl x_4, .inl x_5] h qI (q_X8_feed h a_0 x_1 x_2 x_3 x_4 x_5) := by
  refine zCq.of (own := RX8) (loc := [some (.inr (8, a_0)), some (.inl x_1), some (.inl x_2), some (.inl x_3), some (.inl x_4), some (.inl x_5), none, none]) (by decide) rfl (Nat.le_of_ble_eq_true rfl) (fun k v hk => ?_) ?_
  · exact zloc_ok 2 rfl hk
  intro p e s m args below meth c C Z1 Z2
  have L24 : ∀ (a0 : Nat) (i1 : Int) (i2 : Int) (i3 : Int) (i4 : Int) (i5 : Int) (k : Int → zH → Option (Int × zH)) (hk : ∀ (u7 : Option zv) (i6 : Int) (h : zH), zQV w p l e (zRm 0 0) s m args below meth c 8 qI (k i6 h) 114 [some (.inr (8, a0)), some (.inl i1), some (.inl i2), some (.inl i3), some (.inl i4), some (.inl i5), some (.inl i6), u7] [] h) (n : Nat) (u7 : Option zv) (i6 : Int) (h : zH), zQV w p l e (zRm 0 0) s m args below meth c 8 qI (q_X8_feed_L24 a0 i1 i2 i3 i4 i5 k n i6 h) 24 [some (.inr (8, a0)), some (.inl i1), some (.inl i2), some (.inl i3), some (.inl i4), some (.inl i5), some (.inl i6), u7] [] h := by
    intro a0 i1 i2 i3 i4 i5 k hk n
    induction n with
    | zero =>
      intro u7 i6 h
      exact q_none
    | succ n ih =>
      intro u7 i6 h
      rw [q_X8_feed_L24]
      refine q_iload C dX8_feed_24 rfl ?_
      refine q_bipush C dX8_feed_26 (by decide) rfl ?_
      refine q_icmp_ge C dX8_feed_28 (tgt := 114) (by decide) ?_ ?_
      · exact hk _ i6 h
      · refine q_iload C dX8_feed_31 rfl ?_
        refine q_iconst C dX8_feed_33 rfl ?_
        refine q_icmp_ge C dX8_feed_34 (tgt := 41) (by decide) ?_ ?_
        · refine q_iload C dX8_feed_41 rfl ?_
          refine q_bipush C dX8_feed_43 (by decide) rfl ?_
          refine q_icmp_ge C dX8_feed_45 (tgt := 52) (by decide) ?_ ?_
          · refine q_iload C dX8_feed_52 rfl ?_
            refine q_bipush C dX8_feed_54 (by decide) rfl ?_
            refine q_icmp_ge C dX8_feed_56 (tgt := 63) (by decide) ?_ ?_
            · refine q_iload C dX8_feed_63 rfl ?_
              refine q_bipush C dX8_feed_65 (by decide) rfl ?_
              refine q_icmp_ge C dX8_feed_67 (tgt := 75) (by decide) ?_ ?_
              · refine q_iload C dX8_feed_75 rfl ?_
                refine q_istore C dX8_feed_77 (by decide) ?_
                refine q_aload_n C dX8_feed_79 rfl ?_
                refine q_getR C dX8_feed_80 fl8_7 rfl ?_
                refine q_aload_n C dX8_feed_83 rfl ?_
                refine q_getI C dX8_feed_84 fl8_50 rfl ?_
                refine q_iload C dX8_feed_87 rfl ?_
                refine q_iadd C dX8_feed_89 ?_
                refine q_iload C dX8_feed_90 rfl ?_
                refine q_bipush C dX8_feed_92 (by decide) rfl ?_
                refine q_bipush C dX8_feed_94 (by decide) rfl ?_
                refine q_iload C dX8_feed_96 rfl ?_
                refine q_iconst C dX8_feed_98 rfl ?_
                refine q_irem C dX8_feed_99 ?_
                refine q_imul C dX8_feed_100 ?_
                refine q_isub C dX8_feed_101 ?_
                refine q_ishr C dX8_feed_102 ?_
                refine q_sipush C dX8_feed_103 (by decide) rfl ?_
                refine q_iand C dX8_feed_106 ?_
                refine q_iast C dX8_feed_107 ⟨by decide, by decide, rfl⟩ (fun h2 => ?_)
                refine q_iincL C dX8_feed_108 rfl (by decide) (fun x3 => ?_)
                refine q_goto C dX8_feed_111 (tgt := 24) (by decide) ?_
                exact ih _ x3 h2
              · refine q_iload C dX8_feed_70 rfl ?_
                refine q_goto C dX8_feed_72 (tgt := 77) (by decide) ?_
                refine q_istore C dX8_feed_77 (by decide) ?_
                refine q_aload_n C dX8_feed_79 rfl ?_
                refine q_getR C dX8_feed_80 fl8_7 rfl ?_
                refine q_aload_n C dX8_feed_83 rfl ?_
                refine q_getI C dX8_feed_84 fl8_50 rfl ?_
                refine q_iload C dX8_feed_87 rfl ?_
                refine q_iadd C dX8_feed_89 ?_
                refine q_iload C dX8_feed_90 rfl ?_
                refine q_bipush C dX8_feed_92 (by decide) rfl ?_
                refine q_bipush C dX8_feed_94 (by decide) rfl ?_
                refine q_iload C dX8_feed_96 rfl ?_
                refine q_iconst C dX8_feed_98 rfl ?_
                refine q_irem C dX8_feed_99 ?_
                refine q_imul C dX8_feed_100 ?_
                refine q_isub C dX8_feed_101 ?_
                refine q_ishr C dX8_feed_102 ?_
                refine q_sipush C dX8_feed_103 (by decide) rfl ?_
                refine q_iand C dX8_feed_106 ?_
                refine q_iast C dX8_feed_107 ⟨by decide, by decide, rfl⟩ (fun h4 => ?_)
                refine q_iincL C dX8_feed_108 rfl (by decide) (fun x5 => ?_)
                refine q_goto C dX8_feed_111 (tgt := 24) (by decide) ?_
                exact ih _ x5 h4
            · refine q_iload_n C dX8_feed_59 rfl ?_
              refine q_goto C dX8_feed_60 (tgt := 77) (by decide) ?_
              refine q_istore C dX8_feed_77 (by decide) ?_
              refine q_aload_n C dX8_feed_79 rfl ?_
              refine q_getR C dX8_feed_80 fl8_7 rfl ?_
              refine q_aload_n C dX8_feed_83 rfl ?_
              refine q_getI C dX8_feed_84 fl8_50 rfl ?_
              refine q_iload C dX8_feed_87 rfl ?_
              refine q_iadd C dX8_feed_89 ?_
              refine q_iload C dX8_feed_90 rfl ?_
              refine q_bipush C dX8_feed_92 (by decide) rfl ?_
              refine q_bipush C dX8_feed_94 (by decide) rfl ?_
              refine q_iload C dX8_feed_96 rfl ?_
              refine q_iconst C dX8_feed_98 rfl ?_
              refine q_irem C dX8_feed_99 ?_
              refine q_imul C dX8_feed_100 ?_
              refine q_isub C dX8_feed_101 ?_
              refine q_ishr C dX8_feed_102 ?_
              refine q_sipush C dX8_feed_103 (by decide) rfl ?_
              refine q_iand C dX8_feed_106 ?_
              refine q_iast C dX8_feed_107 ⟨by decide, by decide, rfl⟩ (fun h6 => ?_)
              refine q_iincL C dX8_feed_108 rfl (by decide) (fun x7 => ?_)
              refine q_goto C dX8_feed_111 (tgt := 24) (by decide) ?_
              exact ih _ x7 h6
          · refine q_iload_n C dX8_feed_48 rfl ?_
            refine q_goto C dX8_feed_49 (tgt := 77) (by decide) ?_
            refine q_istore C dX8_feed_77 (by decide) ?_
            refine q_aload_n C dX8_feed_79 rfl ?_
            refine q_getR C dX8_feed_80 fl8_7 rfl ?_
            refine q_aload_n C dX8_feed_83 rfl ?_
            refine q_getI C dX8_feed_84 fl8_50 rfl ?_
            refine q_iload C dX8_feed_87 rfl ?_
            refine q_iadd C dX8_feed_89 ?_
            refine q_iload C dX8_feed_90 rfl ?_
            refine q_bipush C dX8_feed_92 (by decide) rfl ?_
            refine q_bipush C dX8_feed_94 (by decide) rfl ?_
            refine q_iload C dX8_feed_96 rfl ?_
            refine q_iconst C dX8_feed_98 rfl ?_
            refine q_irem C dX8_feed_99 ?_
            refine q_imul C dX8_feed_100 ?_
            refine q_isub C dX8_feed_101 ?_
            refine q_ishr C dX8_feed_102 ?_
            refine q_sipush C dX8_feed_103 (by decide) rfl ?_
            refine q_iand C dX8_feed_106 ?_
            refine q_iast C dX8_feed_107 ⟨by decide, by decide, rfl⟩ (fun h8 => ?_)
            refine q_iincL C dX8_feed_108 rfl (by decide) (fun x9 => ?_)
            refine q_goto C dX8_feed_111 (tgt := 24) (by decide) ?_
            exact ih _ x9 h8
        · refine q_iload_n C dX8_feed_37 rfl ?_
          refine q_goto C dX8_feed_38 (tgt := 77) (by decide) ?_
          refine q_istore C dX8_feed_77 (by decide) ?_
          refine q_aload_n C dX8_feed_79 rfl ?_
          refine q_getR C dX8_feed_80 fl8_7 rfl ?_
          refine q_aload_n C dX8_feed_83 rfl ?_
          refine q_getI C dX8_feed_84 fl8_50 rfl ?_
          refine q_iload C dX8_feed_87 rfl ?_
          refine q_iadd C dX8_feed_89 ?_
          refine q_iload C dX8_feed_90 rfl ?_
          refine q_bipush C dX8_feed_92 (by decide) rfl ?_
          refine q_bipush C dX8_feed_94 (by decide) rfl ?_
          refine q_iload C dX8_feed_96 rfl ?_
          refine q_iconst C dX8_feed_98 rfl ?_
          refine q_irem C dX8_feed_99 ?_
          refine q_imul C dX8_feed_100 ?_
          refine q_isub C dX8_feed_101 ?_
          refine q_ishr C dX8_feed_102 ?_
          refine q_sipush C dX8_feed_103 (by decide) rfl ?_
          refine q_iand C dX8_feed_106 ?_
          refine q_iast C dX8_feed_107 ⟨by decide, by decide, rfl⟩ (fun h10 => ?_)
          refine q_iincL C dX8_feed_108 rfl (by decide) (fun x11 => ?_)
          refine q_goto C dX8_feed_111 (tgt := 24) (by decide) ?_
          exact ih _ x11 h10
  unfold q_X8_feed
  refine q_aload_n C dX8_feed_0 rfl ?_
  refine q_iconst C dX8_feed_1 rfl ?_
  refine q_putI C dX8_feed_2 pl8_47 rfl (fun h1 => ?_)
  refine q_aload_n C dX8_feed_5 rfl ?_
  refine q_getI C dX8_feed_6 fl8_50 rfl ?_
  refine q_bipush C dX8_feed_9 (by decide) rfl ?_
  refine q_iadd C dX8_feed_11 ?_
  refine q_sipush C dX8_feed_12 (by decide) rfl ?_
  refine q_icmp_le C dX8_feed_15 (tgt := 21) (by decide) ?_ ?_
  · refine q_iconst C dX8_feed_21 rfl ?_
    refine q_istore C dX8_feed_22 (by decide) ?_
    refine L24 a_0 x_1 x_2 x_3 x_4 x_5 _ ?_ zF _ 0 h1
    intro u14 x12 h13
    refine q_aload_n C dX8_feed_114 rfl ?_
    refine q_dup C dX8_feed_115 ?_
    refine q_getI C dX8_feed_116 fl8_50 rfl ?_
    refine q_bipush C dX8_feed_119 (by decide) rfl ?_
    refine q_iadd C dX8_feed_121 ?_
    refine q_putI C dX8_feed_122 pl8_50 rfl (fun h15 => ?_)
    refine q_aload_n C dX8_feed_125 rfl ?_
    refine q_getI C dX8_feed_126 fl8_50 rfl ?_
    exact q_iret C Z1 Z2 dX8_feed_129
  · refine q_bipush C dX8_feed_18 (by decide) rfl ?_
    exact q_iret C Z1 Z2 dX8_feed_20
def q_X8_newExchange_L2 (a0 : Nat) (k : Int → zH → Option (Unit × zH)) : Nat → Int → zH → Option (Unit × zH)
  | 0, _, _ => none
  | n + 1, i1, h => if 65 ≤ i1 then (k i1 h) else (zgi 65 i1 (zlet (zput h (h.2 a0 4) i1.toNat 0) (fun h1 => zlet (zw (i1 + 1)) (fun x2 => q_X8_newExchange_L2 a0 k n x2 h1))))
def q_X8_newExchange_L31 (a0 : Nat) (k : Int → zH → Option (Unit × zH)) : Nat → Int → zH → Option (Unit × zH)
  | 0, _, _ => none
  | n + 1, i1, h => if 597 ≤ i1 then (k i1 h) else (zgi 597 i1 (zlet (zput h (h.2 a0 5) i1.toNat 0) (fun h6 => zlet (zw (i1 + 1)) (fun x7 => q_X8_newExchange_L31 a0 k n x7 h6))))
def q_X8_newExchange (h : zH) (a_0 : Nat) : Option (Unit × zH) := q_X8_newExchange_L2 a_0 (fun x3 h4 => zlet (zput h4 (h4.2 a_0 4) 64 1) (fun h5 => q_X8_newExchange_L31 a_0 (fun x8 h9 => zlet (zput h9 (h9.2 a_0 5) 1 1000) (fun h10 => zlet (zput h10 (h10.2 a_0 5) 2 10) (fun h11 => zlet (zput h11 (h11.2 a_0 5) 3 50) (fun h12 => zlet (zput h12 (h12.2 a_0 5) 4 20) (fun h13 => zlet (zput h13 (h13.2 a_0 5) 5 300) (fun h14 => zlet (zput h14 (h14.2 a_0 5) 6 20) (fun h15 => zlet (zput h15 (h15.2 a_0 5) 7 50) (fun h16 => zlet (zput h16 a_0 19 0) (fun h17 => zlet (zput h17 a_0 20 0) (fun h18 => zlet (zput h18 a_0 18 0) (fun h19 => some ((), h19)))))))))))) zF 0 h5)) zF 0 h
theorem cq_X8_newExchange (w : zW) (l : Launch) (h : zH) (a_0 : Nat) : zCq w l yX8_newExchange cX8_newExchange 2 none 0 0 [.inr (8, a_0)] h qU (q_X8_newExchange h a_0) := by
  refine zCq.of (own := RX8) (loc := [some (.inr (8, a_0)), none]) (by decide) rfl (Nat.le_of_ble_eq_true rfl) (fun k v hk => ?_) ?_
  · exact zloc_ok 1 rfl hk
  intro p e s m args below meth c C Z1 Z2
  have L2 : ∀ (a0 : Nat) (k : Int → zH → Option (Unit × zH)) (hk : ∀ (i1 : Int) (h : zH), zQV w p l e (zRm 0 0) s m args below meth c 2 qU (k i1 h) 21 [some (.inr (8, a0)), some (.inl i1)] [] h) (n : Nat) (i1 : Int) (h : zH), zQV w p l e (zRm 0 0) s m args below meth c 2 qU (q_X8_newExchange_L2 a0 k n i1 h) 2 [some (.inr (8, a0)), some (.inl i1)] [] h := by
    intro a0 k hk n
    induction n with
    | zero =>
      intro i1 h
      exact q_none
    | succ n ih =>
      intro i1 h
      rw [q_X8_newExchange_L2]
      refine q_iload_n C dX8_newExchange_2 rfl ?_
      refine q_bipush C dX8_newExchange_3 (by decide) rfl ?_
      refine q_icmp_ge C dX8_newExchange_5 (tgt := 21) (by decide) ?_ ?_
      · exact hk i1 h
      · refine q_aload_n C dX8_newExchange_8 rfl ?_
        refine q_getR C dX8_newExchange_9 fl8_16 rfl ?_
        refine q_iload_n C dX8_newExchange_12 rfl ?_
        refine q_iconst C dX8_newExchange_13 rfl ?_
        refine q_iast C dX8_newExchange_14 ⟨by decide, by decide, rfl⟩ (fun h1 => ?_)
        refine q_iincL C dX8_newExchange_15 rfl (by decide) (fun x2 => ?_)
        refine q_goto C dX8_newExchange_18 (tgt := 2) (by decide) ?_
        exact ih x2 h1
  have L31 : ∀ (a0 : Nat) (k : Int → zH → Option (Unit × zH)) (hk : ∀ (i1 : Int) (h : zH), zQV w p l e (zRm 0 0) s m args below meth c 2 qU (k i1 h) 51 [some (.inr (8, a0)), some (.inl i1)] [] h) (n : Nat) (i1 : Int) (h : zH), zQV w p l e (zRm 0 0) s m args below meth c 2 qU (q_X8_newExchange_L31 a0 k n i1 h) 31 [some (.inr (8, a0)), some (.inl i1)] [] h := by
    intro a0 k hk n
    induction n with
    | zero =>
      intro i1 h
      exact q_none
    | succ n ih =>
      intro i1 h
      rw [q_X8_newExchange_L31]
      refine q_iload_n C dX8_newExchange_31 rfl ?_
      refine q_sipush C dX8_newExchange_32 (by decide) rfl ?_
      refine q_icmp_ge C dX8_newExchange_35 (tgt := 51) (by decide) ?_ ?_
      · exact hk i1 h
      · refine q_aload_n C dX8_newExchange_38 rfl ?_
        refine q_getR C dX8_newExchange_39 fl8_19 rfl ?_
        refine q_iload_n C dX8_newExchange_42 rfl ?_
        refine q_iconst C dX8_newExchange_43 rfl ?_
        refine q_iast C dX8_newExchange_44 ⟨by decide, by decide, rfl⟩ (fun h6 => ?_)
        refine q_iincL C dX8_newExchange_45 rfl (by decide) (fun x7 => ?_)
        refine q_goto C dX8_newExchange_48 (tgt := 31) (by decide) ?_
        exact ih x7 h6
  unfold q_X8_newExchange
  refine q_iconst C dX8_newExchange_0 rfl ?_
  refine q_istore_n C dX8_newExchange_1 (by decide) ?_
  refine L2 a_0 _ ?_ zF 0 h
  intro x3 h4
  refine q_aload_n C dX8_newExchange_21 rfl ?_
  refine q_getR C dX8_newExchange_22 fl8_16 rfl ?_
  refine q_bipush C dX8_newExchange_25 (by decide) rfl ?_
  refine q_iconst C dX8_newExchange_27 rfl ?_
  refine q_iastN (j := 64) C dX8_newExchange_28 ⟨by decide, by decide, rfl⟩ rfl (by decide) (fun h5 => ?_)
  refine q_iconst C dX8_newExchange_29 rfl ?_
  refine q_istore_n C dX8_newExchange_30 (by decide) ?_
  refine L31 a_0 _ ?_ zF 0 h5
  intro x8 h9
  refine q_aload_n C dX8_newExchange_51 rfl ?_
  refine q_getR C dX8_newExchange_52 fl8_19 rfl ?_
  refine q_iconst C dX8_newExchange_55 rfl ?_
  refine q_sipush C dX8_newExchange_56 (by decide) rfl ?_
  refine q_iastN (j := 1) C dX8_newExchange_59 ⟨by decide, by decide, rfl⟩ rfl (by decide) (fun h10 => ?_)
  refine q_aload_n C dX8_newExchange_60 rfl ?_
  refine q_getR C dX8_newExchange_61 fl8_19 rfl ?_
  refine q_iconst C dX8_newExchange_64 rfl ?_
  refine q_bipush C dX8_newExchange_65 (by decide) rfl ?_
  refine q_iastN (j := 2) C dX8_newExchange_67 ⟨by decide, by decide, rfl⟩ rfl (by decide) (fun h11 => ?_)
  refine q_aload_n C dX8_newExchange_68 rfl ?_
  refine q_getR C dX8_newExchange_69 fl8_19 rfl ?_
  refine q_iconst C dX8_newExchange_72 rfl ?_
  refine q_bipush C dX8_newExchange_73 (by decide) rfl ?_
  refine q_iastN (j := 3) C dX8_newExchange_75 ⟨by decide, by decide, rfl⟩ rfl (by decide) (fun h12 => ?_)
  refine q_aload_n C dX8_newExchange_76 rfl ?_
  refine q_getR C dX8_newExchange_77 fl8_19 rfl ?_
  refine q_iconst C dX8_newExchange_80 rfl ?_
  refine q_bipush C dX8_newExchange_81 (by decide) rfl ?_
  refine q_iastN (j := 4) C dX8_newExchange_83 ⟨by decide, by decide, rfl⟩ rfl (by decide) (fun h13 => ?_)
  refine q_aload_n C dX8_newExchange_84 rfl ?_
  refine q_getR C dX8_newExchange_85 fl8_19 rfl ?_
  refine q_iconst C dX8_newExchange_88 rfl ?_
  refine q_sipush C dX8_newExchange_89 (by decide) rfl ?_
  refine q_iastN (j := 5) C dX8_newExchange_92 ⟨by decide, by decide, rfl⟩ rfl (by decide) (fun h14 => ?_)
  refine q_aload_n C dX8_newExchange_93 rfl ?_
  refine q_getR C dX8_newExchange_94 fl8_19 rfl ?_
  refine q_bipush C dX8_newExchange_97 (by decide) rfl ?_
  refine q_bipush C dX8_newExchange_99 (by decide) rfl ?_
  refine q_iastN (j := 6) C dX8_newExchange_101 ⟨by decide, by decide, rfl⟩ rfl (by decide) (fun h15 => ?_)
  refine q_aload_n C dX8_newExchange_102 rfl ?_
  refine q_getR C dX8_newExchange_103 fl8_19 rfl ?_
  refine q_bipush C dX8_newExchange_106 (by decide) rfl ?_
  refine q_bipush C dX8_newExchange_108 (by decide) rfl ?_
  refine q_iastN (j := 7) C dX8_newExchange_110 ⟨by decide, by decide, rfl⟩ rfl (by decide) (fun h16 => ?_)
  refine q_aload_n C dX8_newExchange_111 rfl ?_
  refine q_iconst C dX8_newExchange_112 rfl ?_
  refine q_putI C dX8_newExchange_113 pl8_53 rfl (fun h17 => ?_)
  refine q_aload_n C dX8_newExchange_116 rfl ?_
  refine q_iconst C dX8_newExchange_117 rfl ?_
  refine q_putZ C dX8_newExchange_118 pl8_56 rfl (Or.inl rfl) (fun h18 => ?_)
  refine q_aload_n C dX8_newExchange_121 rfl ?_
  refine q_iconst C dX8_newExchange_122 rfl ?_
  refine q_putI C dX8_newExchange_123 pl8_60 rfl (fun h19 => ?_)
  exact q_vret C Z1 Z2 dX8_newExchange_126
def q_X8_here (h : zH) (a_0 : Nat) : Option Int := if h.1 a_0 9 ≤ h.1 a_0 10 then (some ((-1))) else (zgi 1000 (h.1 a_0 10) (some (h.1 (h.2 a_0 1) (h.1 a_0 10).toNat)))
theorem cq_X8_here (w : zW) (l : Launch) (h : zH) (a_0 : Nat) : zCp w l yX8_here cX8_here 1 (some .int) 0 0 [.inr (8, a_0)] h qI (q_X8_here h a_0) := by
  refine zCp.of (own := RX8) (loc := [some (.inr (8, a_0))]) (by decide) rfl (Nat.le_of_ble_eq_true rfl) (fun k v hk => ?_) ?_
  · exact zloc_ok 0 rfl hk
  intro p e s m args below meth c C Z1 Z2
  unfold q_X8_here
  refine p_aload_n C dX8_here_0 rfl ?_
  refine p_getI C dX8_here_1 fl8_63 rfl ?_
  refine p_aload_n C dX8_here_4 rfl ?_
  refine p_getI C dX8_here_5 fl8_66 rfl ?_
  refine p_icmp_ge C dX8_here_8 (tgt := 23) (by decide) ?_ ?_
  · refine p_iconst C dX8_here_23 rfl ?_
    exact p_iret C Z1 Z2 dX8_here_24
  · refine p_aload_n C dX8_here_11 rfl ?_
    refine p_getR C dX8_here_12 fl8_7 rfl ?_
    refine p_aload_n C dX8_here_15 rfl ?_
    refine p_getI C dX8_here_16 fl8_63 rfl ?_
    refine p_iald C dX8_here_19 ⟨by decide, by decide, rfl⟩ ?_
    refine p_goto C dX8_here_20 (tgt := 24) (by decide) ?_
    exact p_iret C Z1 Z2 dX8_here_24
def q_X8_isSmall (h : zH) (x_0 : Int) : Option Int := if x_0 < 97 then (some 0) else (if 122 < x_0 then (some 0) else (some 1))
theorem cq_X8_isSmall (w : zW) (l : Launch) (h : zH) (x_0 : Int) : zCp w l yX8_isSmall cX8_isSmall 1 (some .boolean) 0 0 [.inl x_0] h qI (q_X8_isSmall h x_0) := by
  refine zCp.of (own := RX8) (loc := [some (.inl x_0)]) (by decide) rfl (Nat.le_of_ble_eq_true rfl) (fun k v hk => ?_) ?_
  · exact zloc_ok 0 rfl hk
  intro p e s m args below meth c C Z1 Z2
  unfold q_X8_isSmall
  refine p_iload_n C dX8_isSmall_0 rfl ?_
  refine p_bipush C dX8_isSmall_1 (by decide) rfl ?_
  refine p_icmp_lt C dX8_isSmall_3 (tgt := 16) (by decide) ?_ ?_
  · refine p_iconst C dX8_isSmall_16 rfl ?_
    exact p_zret C Z1 Z2 (Or.inl rfl) dX8_isSmall_17
  · refine p_iload_n C dX8_isSmall_6 rfl ?_
    refine p_bipush C dX8_isSmall_7 (by decide) rfl ?_
    refine p_icmp_gt C dX8_isSmall_9 (tgt := 16) (by decide) ?_ ?_
    · refine p_iconst C dX8_isSmall_16 rfl ?_
      exact p_zret C Z1 Z2 (Or.inl rfl) dX8_isSmall_17
    · refine p_iconst C dX8_isSmall_12 rfl ?_
      refine p_goto C dX8_isSmall_13 (tgt := 17) (by decide) ?_
      exact p_zret C Z1 Z2 (Or.inr rfl) dX8_isSmall_17
def q_X8_isDigit (h : zH) (x_0 : Int) : Option Int := if x_0 < 48 then (some 0) else (if 57 < x_0 then (some 0) else (some 1))
theorem cq_X8_isDigit (w : zW) (l : Launch) (h : zH) (x_0 : Int) : zCp w l yX8_isDigit cX8_isDigit 1 (some .boolean) 0 0 [.inl x_0] h qI (q_X8_isDigit h x_0) := by
  refine zCp.of (own := RX8) (loc := [some (.inl x_0)]) (by decide) rfl (Nat.le_of_ble_eq_true rfl) (fun k v hk => ?_) ?_
  · exact zloc_ok 0 rfl hk
  intro p e s m args below meth c C Z1 Z2
  unfold q_X8_isDigit
  refine p_iload_n C dX8_isDigit_0 rfl ?_
  refine p_bipush C dX8_isDigit_1 (by decide) rfl ?_
  refine p_icmp_lt C dX8_isDigit_3 (tgt := 16) (by decide) ?_ ?_
  · refine p_iconst C dX8_isDigit_16 rfl ?_
    exact p_zret C Z1 Z2 (Or.inl rfl) dX8_isDigit_17
  · refine p_iload_n C dX8_isDigit_6 rfl ?_
    refine p_bipush C dX8_isDigit_7 (by decide) rfl ?_
    refine p_icmp_gt C dX8_isDigit_9 (tgt := 16) (by decide) ?_ ?_
    · refine p_iconst C dX8_isDigit_16 rfl ?_
      exact p_zret C Z1 Z2 (Or.inl rfl) dX8_isDigit_17
    · refine p_iconst C dX8_isDigit_12 rfl ?_
      refine p_goto C dX8_isDigit_13 (tgt := 17) (by decide) ?_
      exact p_zret C Z1 Z2 (Or.inr rfl) dX8_isDigit_17
def q_X8_failsIf (h : zH) (a_0 : Nat) (x_1 : Int) (x_2 : Int) : Option (Unit × zH) := if h.1 a_0 15 = 0 then (if x_1 = 0 then (some ((), h)) else (zlet (zput h a_0 15 x_2) (fun h1 => zlet (zput h1 a_0 16 (h1.1 a_0 11)) (fun h2 => some ((), h2))))) else (some ((), h))
theorem cq_X8_failsIf (w : zW) (l : Launch) (h : zH) (a_0 : Nat) (x_1 : Int) (x_2 : Int) : zCq w l yX8_failsIf cX8_failsIf 3 none 0 0 [.inr (8, a_0), .inl x_1, .inl x_2] h qU (q_X8_failsIf h a_0 x_1 x_2) := by
  refine zCq.of (own := RX8) (loc := [some (.inr (8, a_0)), some (.inl x_1), some (.inl x_2)]) (by decide) rfl (Nat.le_of_ble_eq_true rfl) (fun k v hk => ?_) ?_
  · exact zloc_ok 0 rfl hk
  intro p e s m args below meth c C Z1 Z2
  unfold q_X8_failsIf
  refine q_aload_n C dX8_failsIf_0 rfl ?_
  refine q_getI C dX8_failsIf_1 fl8_104 rfl ?_
  refine q_if_ne C dX8_failsIf_4 (tgt := 11) (by decide) ?_ ?_
  · exact q_vret C Z1 Z2 dX8_failsIf_11
  · refine q_iload_n C dX8_failsIf_7 rfl ?_
    refine q_if_ne C dX8_failsIf_8 (tgt := 12) (by decide) ?_ ?_
    · refine q_aload_n C dX8_failsIf_12 rfl ?_
      refine q_iload_n C dX8_failsIf_13 rfl ?_
      refine q_putI C dX8_failsIf_14 pl8_104 rfl (fun h1 => ?_)
      refine q_aload_n C dX8_failsIf_17 rfl ?_
      refine q_aload_n C dX8_failsIf_18 rfl ?_
      refine q_getI C dX8_failsIf_19 fl8_73 rfl ?_
      refine q_putI C dX8_failsIf_22 pl8_107 rfl (fun h2 => ?_)
      exact q_vret C Z1 Z2 dX8_failsIf_25
    · exact q_vret C Z1 Z2 dX8_failsIf_11
def q_X8_seesName_L47 (a0 : Nat) (k : Int → zH → Option (Unit × zH)) : Nat → Int → zH → Option (Unit × zH)
  | 0, _, _ => none
  | n + 1, i1, h => if 6 ≤ i1 then (k i1 h) else (if h.1 a0 15 = 0 then (if h.1 a0 10 ≤ zw (h.1 a0 11 + i1) then (zlet (zput h a0 14 (zor (zshl (h.1 a0 14) 5) 0)) (fun h3 => zlet (zw (i1 + 1)) (fun x4 => q_X8_seesName_L47 a0 k n x4 h3))) else (zgi 1000 (zw (h.1 a0 11 + i1)) (zlet (zput h a0 14 (zor (zshl (h.1 a0 14) 5) (zw (zw (h.1 (h.2 a0 1) (zw (h.1 a0 11 + i1)).toNat - 97) + 1)))) (fun h5 => zlet (zw (i1 + 1)) (fun x6 => q_X8_seesName_L47 a0 k n x6 h5))))) else (k i1 h))
def q_X8_seesName (h : zH) (a_0 : Nat) : Option (Unit × zH) := if h.1 a_0 12 = 0 then (if h.1 a_0 13 = (-1) then (if zw (h.1 a_0 10 - h.1 a_0 11) ≤ 6 then (zbd (q_X8_failsIf h a_0 0 ((-11))) (fun _ h13 => zlet (zput h13 a_0 14 0) (fun h14 => q_X8_seesName_L47 a_0 (fun x15 h16 => some ((), h16)) zF 0 h14))) else (zbd (q_X8_failsIf h a_0 1 ((-11))) (fun _ h17 => zlet (zput h17 a_0 14 0) (fun h18 => q_X8_seesName_L47 a_0 (fun x19 h20 => some ((), h20)) zF 0 h18)))) else (zbd (q_X8_failsIf h a_0 1 ((-11))) (fun _ h9 => zlet (zput h9 a_0 14 0) (fun h10 => q_X8_seesName_L47 a_0 (fun x11 h12 => some ((), h12)) zF 0 h10)))) else (zbd (q_X8_failsIf h a_0 1 ((-11))) (fun _ h1 => zlet (zput h1 a_0 14 0) (fun h2 => q_X8_seesName_L47 a_0 (fun x7 h8 => some ((), h8)) zF 0 h2)))
theorem cq_X8_seesName (w : zW) (l : Launch) (h : zH) (a_0 : Nat) : zCq w l yX8_seesName cX8_seesName 2 none 1 22 [.inr (8, a_0)] h qU (q_X8_seesName h a_0) := by
  refine zCq.of (own := RX8) (loc := [some (.inr (8, a_0)), none]) (by decide) rfl (Nat.le_of_ble_eq_true rfl) (fun k v hk => ?_) ?_
  · exact zloc_ok 1 rfl hk
  intro p e s m args below meth c C Z1 Z2
  have L47 : ∀ (a0 : Nat) (k : Int → zH → Option (Unit × zH)) (hk : ∀ (i1 : Int) (h : zH), zQV w p l e (zRm 1 22) s m args below meth c 2 qU (k i1 h) 110 [some (.inr (8, a0)), some (.inl i1)] [] h) (n : Nat) (i1 : Int) (h : zH), zQV w p l e (zRm 1 22) s m args below meth c 2 qU (q_X8_seesName_L47 a0 k n i1 h) 47 [some (.inr (8, a0)), some (.inl i1)] [] h := by
    intro a0 k hk n
    induction n with
    | zero =>
      intro i1 h
      exact q_none
    | succ n ih =>
      intro i1 h
      rw [q_X8_seesName_L47]
      refine q_iload_n C dX8_seesName_47 rfl ?_
      refine q_bipush C dX8_seesName_48 (by decide) rfl ?_
      refine q_icmp_ge C dX8_seesName_50 (tgt := 110) (by decide) ?_ ?_
      · exact hk i1 h
      · refine q_aload_n C dX8_seesName_53 rfl ?_
        refine q_getI C dX8_seesName_54 fl8_104 rfl ?_
        refine q_if_ne C dX8_seesName_57 (tgt := 110) (by decide) ?_ ?_
        · exact hk i1 h
        · refine q_aload_n C dX8_seesName_60 rfl ?_
          refine q_aload_n C dX8_seesName_61 rfl ?_
          refine q_getI C dX8_seesName_62 fl8_120 rfl ?_
          refine q_iconst C dX8_seesName_65 rfl ?_
          refine q_ishl C dX8_seesName_66 ?_
          refine q_aload_n C dX8_seesName_67 rfl ?_
          refine q_getI C dX8_seesName_68 fl8_73 rfl ?_
          refine q_iload_n C dX8_seesName_71 rfl ?_
          refine q_iadd C dX8_seesName_72 ?_
          refine q_aload_n C dX8_seesName_73 rfl ?_
          refine q_getI C dX8_seesName_74 fl8_63 rfl ?_
          refine q_icmp_ge C dX8_seesName_77 (tgt := 99) (by decide) ?_ ?_
          · refine q_iconst C dX8_seesName_99 rfl ?_
            refine q_ior C dX8_seesName_100 ?_
            refine q_putI C dX8_seesName_101 pl8_120 rfl (fun h3 => ?_)
            refine q_iincL C dX8_seesName_104 rfl (by decide) (fun x4 => ?_)
            refine q_goto C dX8_seesName_107 (tgt := 47) (by decide) ?_
            exact ih x4 h3
          · refine q_aload_n C dX8_seesName_80 rfl ?_
            refine q_getR C dX8_seesName_81 fl8_7 rfl ?_
            refine q_aload_n C dX8_seesName_84 rfl ?_
            refine q_getI C dX8_seesName_85 fl8_73 rfl ?_
            refine q_iload_n C dX8_seesName_88 rfl ?_
            refine q_iadd C dX8_seesName_89 ?_
            refine q_iald C dX8_seesName_90 ⟨by decide, by decide, rfl⟩ ?_
            refine q_bipush C dX8_seesName_91 (by decide) rfl ?_
            refine q_isub C dX8_seesName_93 ?_
            refine q_iconst C dX8_seesName_94 rfl ?_
            refine q_iadd C dX8_seesName_95 ?_
            refine q_goto C dX8_seesName_96 (tgt := 100) (by decide) ?_
            refine q_ior C dX8_seesName_100 ?_
            refine q_putI C dX8_seesName_101 pl8_120 rfl (fun h5 => ?_)
            refine q_iincL C dX8_seesName_104 rfl (by decide) (fun x6 => ?_)
            refine q_goto C dX8_seesName_107 (tgt := 47) (by decide) ?_
            exact ih x6 h5
  unfold q_X8_seesName
  refine q_aload_n C dX8_seesName_0 rfl ?_
  refine q_aload_n C dX8_seesName_1 rfl ?_
  refine q_getI C dX8_seesName_2 fl8_76 rfl ?_
  refine q_if_ne C dX8_seesName_5 (tgt := 30) (by decide) ?_ ?_
  · refine q_iconst C dX8_seesName_30 rfl ?_
    refine q_goto C dX8_seesName_31 (tgt := 35) (by decide) ?_
    refine q_bipush C dX8_seesName_35 (by decide) rfl ?_
    refine q_callVU C dX8_seesName_37 mv8_113 (cq_X8_failsIf w l h _ _ _) rfl ⟨by decide, by decide⟩ ⟨rfl, Nat.le_of_ble_eq_true rfl⟩ (fun _ h1 => ?_)
    refine q_aload_n C dX8_seesName_40 rfl ?_
    refine q_iconst C dX8_seesName_41 rfl ?_
    refine q_putI C dX8_seesName_42 pl8_120 rfl (fun h2 => ?_)
    refine q_iconst C dX8_seesName_45 rfl ?_
    refine q_istore_n C dX8_seesName_46 (by decide) ?_
    refine L47 a_0 _ ?_ zF 0 h2
    intro x7 h8
    exact q_vret C Z1 Z2 dX8_seesName_110
  · refine q_aload_n C dX8_seesName_8 rfl ?_
    refine q_getI C dX8_seesName_9 fl8_86 rfl ?_
    refine q_iconst C dX8_seesName_12 rfl ?_
    refine q_icmp_ne C dX8_seesName_13 (tgt := 30) (by decide) ?_ ?_
    · refine q_iconst C dX8_seesName_30 rfl ?_
      refine q_goto C dX8_seesName_31 (tgt := 35) (by decide) ?_
      refine q_bipush C dX8_seesName_35 (by decide) rfl ?_
      refine q_callVU C dX8_seesName_37 mv8_113 (cq_X8_failsIf w l h _ _ _) rfl ⟨by decide, by decide⟩ ⟨rfl, Nat.le_of_ble_eq_true rfl⟩ (fun _ h9 => ?_)
      refine q_aload_n C dX8_seesName_40 rfl ?_
      refine q_iconst C dX8_seesName_41 rfl ?_
      refine q_putI C dX8_seesName_42 pl8_120 rfl (fun h10 => ?_)
      refine q_iconst C dX8_seesName_45 rfl ?_
      refine q_istore_n C dX8_seesName_46 (by decide) ?_
      refine L47 a_0 _ ?_ zF 0 h10
      intro x11 h12
      exact q_vret C Z1 Z2 dX8_seesName_110
    · refine q_aload_n C dX8_seesName_16 rfl ?_
      refine q_getI C dX8_seesName_17 fl8_63 rfl ?_
      refine q_aload_n C dX8_seesName_20 rfl ?_
      refine q_getI C dX8_seesName_21 fl8_73 rfl ?_
      refine q_isub C dX8_seesName_24 ?_
      refine q_bipush C dX8_seesName_25 (by decide) rfl ?_
      refine q_icmp_le C dX8_seesName_27 (tgt := 34) (by decide) ?_ ?_
      · refine q_iconst C dX8_seesName_34 rfl ?_
        refine q_bipush C dX8_seesName_35 (by decide) rfl ?_
        refine q_callVU C dX8_seesName_37 mv8_113 (cq_X8_failsIf w l h _ _ _) rfl ⟨by decide, by decide⟩ ⟨rfl, Nat.le_of_ble_eq_true rfl⟩ (fun _ h13 => ?_)
        refine q_aload_n C dX8_seesName_40 rfl ?_
        refine q_iconst C dX8_seesName_41 rfl ?_
        refine q_putI C dX8_seesName_42 pl8_120 rfl (fun h14 => ?_)
        refine q_iconst C dX8_seesName_45 rfl ?_
        refine q_istore_n C dX8_seesName_46 (by decide) ?_
        refine L47 a_0 _ ?_ zF 0 h14
        intro x15 h16
        exact q_vret C Z1 Z2 dX8_seesName_110
      · refine q_iconst C dX8_seesName_30 rfl ?_
        refine q_goto C dX8_seesName_31 (tgt := 35) (by decide) ?_
        refine q_bipush C dX8_seesName_35 (by decide) rfl ?_
        refine q_callVU C dX8_seesName_37 mv8_113 (cq_X8_failsIf w l h _ _ _) rfl ⟨by decide, by decide⟩ ⟨rfl, Nat.le_of_ble_eq_true rfl⟩ (fun _ h17 => ?_)
        refine q_aload_n C dX8_seesName_40 rfl ?_
        refine q_iconst C dX8_seesName_41 rfl ?_
        refine q_putI C dX8_seesName_42 pl8_120 rfl (fun h18 => ?_)
        refine q_iconst C dX8_seesName_45 rfl ?_
        refine q_istore_n C dX8_seesName_46 (by decide) ?_
        refine L47 a_0 _ ?_ zF 0 h18
        intro x19 h20
        exact q_vret C Z1 Z2 dX8_seesName_110
def q_X8_found_L2 (h : zH) (a0 : Nat) (i1 : Int) (k : Int → Option Int) : Nat → Int → Option Int
  | 0, _ => none
  | n + 1, i2 => if h.1 a0 62 ≤ i2 then (k i2) else (zgi 65 (zw (0 + i2)) (if h.1 a0 (zw (0 + i2)).toNat = i1 then (some i2) else (zlet (zw (i2 + 1)) (fun x1 => q_X8_found_L2 h a0 i1 k n x1))))
def q_X8_found (h : zH) (a_0 : Nat) (x_1 : Int) : Option Int := q_X8_found_L2 h a_0 x_1 (fun x2 => some ((-1))) zF 0
theorem cq_X8_found (w : zW) (l : Launch) (h : zH) (a_0 : Nat) (x_1 : Int) : zCp w l yX8_found cX8_found 3 (some .int) 0 0 [.inr (17, a_0), .inl x_1] h qI (q_X8_found h a_0 x_1) := by
  refine zCp.of (own := RX8) (loc := [some (.inr (17, a_0)), some (.inl x_1), none]) (by decide) rfl (Nat.le_of_ble_eq_true rfl) (fun k v hk => ?_) ?_
  · exact zloc_ok 1 rfl hk
  intro p e s m args below meth c C Z1 Z2
  have L2 : ∀ (a0 : Nat) (i1 : Int) (k : Int → Option Int) (hk : ∀ (i2 : Int), zQP w p l e (zRm 0 0) s m args below meth c 3 qI (k i2) 27 [some (.inr (17, a0)), some (.inl i1), some (.inl i2)] [] h) (n : Nat) (i2 : Int), zQP w p l e (zRm 0 0) s m args below meth c 3 qI (q_X8_found_L2 h a0 i1 k n i2) 2 [some (.inr (17, a0)), some (.inl i1), some (.inl i2)] [] h := by
    intro a0 i1 k hk n
    induction n with
    | zero =>
      intro i2
      exact p_none
    | succ n ih =>
      intro i2
      rw [q_X8_found_L2]
      refine p_iload_n C dX8_found_2 rfl ?_
      refine p_aload_n C dX8_found_3 rfl ?_
      refine p_bipush C dX8_found_4 (by decide) rfl ?_
      refine p_ialdN (j := 62) C dX8_found_6 ⟨by decide, by decide, rfl⟩ rfl (by decide) ?_
      refine p_icmp_ge C dX8_found_7 (tgt := 27) (by decide) ?_ ?_
      · exact hk i2
      · refine p_aload_n C dX8_found_10 rfl ?_
        refine p_iconst C dX8_found_11 rfl ?_
        refine p_iload_n C dX8_found_12 rfl ?_
        refine p_iadd C dX8_found_13 ?_
        refine p_iald C dX8_found_14 ⟨by decide, by decide, rfl⟩ ?_
        refine p_iload_n C dX8_found_15 rfl ?_
        refine p_icmp_ne C dX8_found_16 (tgt := 21) (by decide) ?_ ?_
        · refine p_iincL C dX8_found_21 rfl (by decide) (fun x1 => ?_)
          refine p_goto C dX8_found_24 (tgt := 2) (by decide) ?_
          exact ih x1
        · refine p_iload_n C dX8_found_19 rfl ?_
          exact p_iret C Z1 Z2 dX8_found_20
  unfold q_X8_found
  refine p_iconst C dX8_found_0 rfl ?_
  refine p_istore_n C dX8_found_1 (by decide) ?_
  refine L2 a_0 x_1 _ ?_ zF 0
  intro x2
  refine p_iconst C dX8_found_27 rfl ?_
  exact p_iret C Z1 Z2 dX8_found_28
def q_X8_put (h : zH) (a_0 : Nat) (x_1 : Int) (x_2 : Int) (x_3 : Int) : Option (Unit × zH) := zgi 597 (zw (zw (405 + zw (12 * x_1)) + x_2)) (zlet (zput h (h.2 a_0 5) (zw (zw (405 + zw (12 * x_1)) + x_2)).toNat x_3) (fun h1 => some ((), h1)))
theorem cq_X8_put (w : zW) (l : Launch) (h : zH) (a_0 : Nat) (x_1 : Int) (x_2 : Int) (x_3 : Int) : zCq w l yX8_put cX8_put 4 none 0 0 [.inr (8, a_0), .inl x_1, .inl x_2, .inl x_3] h qU (q_X8_put h a_0 x_1 x_2 x_3) := by
  refine zCq.of (own := RX8) (loc := [some (.inr (8, a_0)), some (.inl x_1), some (.inl x_2), some (.inl x_3)]) (by decide) rfl (Nat.le_of_ble_eq_true rfl) (fun k v hk => ?_) ?_
  · exact zloc_ok 0 rfl hk
  intro p e s m args below meth c C Z1 Z2
  unfold q_X8_put
  refine q_aload_n C dX8_put_0 rfl ?_
  refine q_getR C dX8_put_1 fl8_19 rfl ?_
  refine q_sipush C dX8_put_4 (by decide) rfl ?_
  refine q_bipush C dX8_put_7 (by decide) rfl ?_
  refine q_iload_n C dX8_put_9 rfl ?_
  refine q_imul C dX8_put_10 ?_
  refine q_iadd C dX8_put_11 ?_
  refine q_iload_n C dX8_put_12 rfl ?_
  refine q_iadd C dX8_put_13 ?_
  refine q_iload_n C dX8_put_14 rfl ?_
  refine q_iast C dX8_put_15 ⟨by decide, by decide, rfl⟩ (fun h1 => ?_)
  exact q_vret C Z1 Z2 dX8_put_16
def q_X8_asks (h : zH) (a_0 : Nat) (x_1 : Int) (x_2 : Int) (x_3 : Int) (x_4 : Int) (x_5 : Int) : Option (Int × zH) := zlet (h.1 (h.2 a_0 5) 404) (fun x1 => zbd (q_X8_put h a_0 x1 0 x_1) (fun _ h2 => zbd (q_X8_put h2 a_0 x1 1 x_2) (fun _ h3 => zbd (q_X8_put h3 a_0 x1 2 x_3) (fun _ h4 => zbd (q_X8_put h4 a_0 x1 3 x_4) (fun _ h5 => zbd (q_X8_put h5 a_0 x1 4 x_5) (fun _ h6 => zbd (q_X8_put h6 a_0 x1 5 0) (fun _ h7 => zbd (q_X8_put h7 a_0 x1 9 (h7.1 (h7.2 a_0 5) 0)) (fun _ h8 => zbd (q_X8_put h8 a_0 x1 10 ((-1))) (fun _ h9 => zbd (q_X8_put h9 a_0 x1 11 0) (fun _ h10 => zlet (zput h10 (h10.2 a_0 5) 404 (zw (h10.1 (h10.2 a_0 5) 404 + 1))) (fun h11 => some (x1, h11))))))))))))
theorem cq_X8_asks (w : zW) (l : Launch) (h : zH) (a_0 : Nat) (x_1 : Int) (x_2 : Int) (x_3 : Int) (x_4 : Int) (x_5 : Int) : zCq w l yX8_asks cX8_asks 7 (some .int) 1 23 [.inr (8, a_0), .inl x_1, .inl x_2, .inl x_3, .inl x_4, .inl x_5] h qI (q_X8_asks h a_0 x_1 x_2 x_3 x_4 x_5) := by
  refine zCq.of (own := RX8) (loc := [some (.inr (8, a_0)), some (.inl x_1), some (.inl x_2), some (.inl x_3), some (.inl x_4), some (.inl x_5), none]) (by decide) rfl (Nat.le_of_ble_eq_true rfl) (fun k v hk => ?_) ?_
  · exact zloc_ok 1 rfl hk
  intro p e s m args below meth c C Z1 Z2
  unfold q_X8_asks
  refine q_aload_n C dX8_asks_0 rfl ?_
  refine q_getR C dX8_asks_1 fl8_19 rfl ?_
  refine q_sipush C dX8_asks_4 (by decide) rfl ?_
  refine q_ialdN (j := 404) C dX8_asks_7 ⟨by decide, by decide, rfl⟩ rfl (by decide) ?_
  refine q_istoreL C dX8_asks_8 (by decide) (fun x1 => ?_)
  refine q_aload_n C dX8_asks_10 rfl ?_
  refine q_iload C dX8_asks_11 rfl ?_
  refine q_iconst C dX8_asks_13 rfl ?_
  refine q_iload_n C dX8_asks_14 rfl ?_
  refine q_callVU C dX8_asks_15 mv8_244 (cq_X8_put w l h _ _ _ _) rfl ⟨by decide, by decide⟩ ⟨rfl, Nat.le_of_ble_eq_true rfl⟩ (fun _ h2 => ?_)
  refine q_aload_n C dX8_asks_18 rfl ?_
  refine q_iload C dX8_asks_19 rfl ?_
  refine q_iconst C dX8_asks_21 rfl ?_
  refine q_iload_n C dX8_asks_22 rfl ?_
  refine q_callVU C dX8_asks_23 mv8_244 (cq_X8_put w l h2 _ _ _ _) rfl ⟨by decide, by decide⟩ ⟨rfl, Nat.le_of_ble_eq_true rfl⟩ (fun _ h3 => ?_)
  refine q_aload_n C dX8_asks_26 rfl ?_
  refine q_iload C dX8_asks_27 rfl ?_
  refine q_iconst C dX8_asks_29 rfl ?_
  refine q_iload_n C dX8_asks_30 rfl ?_
  refine q_callVU C dX8_asks_31 mv8_244 (cq_X8_put w l h3 _ _ _ _) rfl ⟨by decide, by decide⟩ ⟨rfl, Nat.le_of_ble_eq_true rfl⟩ (fun _ h4 => ?_)
  refine q_aload_n C dX8_asks_34 rfl ?_
  refine q_iload C dX8_asks_35 rfl ?_
  refine q_iconst C dX8_asks_37 rfl ?_
  refine q_iload C dX8_asks_38 rfl ?_
  refine q_callVU C dX8_asks_40 mv8_244 (cq_X8_put w l h4 _ _ _ _) rfl ⟨by decide, by decide⟩ ⟨rfl, Nat.le_of_ble_eq_true rfl⟩ (fun _ h5 => ?_)
  refine q_aload_n C dX8_asks_43 rfl ?_
  refine q_iload C dX8_asks_44 rfl ?_
  refine q_iconst C dX8_asks_46 rfl ?_
  refine q_iload C dX8_asks_47 rfl ?_
  refine q_callVU C dX8_asks_49 mv8_244 (cq_X8_put w l h5 _ _ _ _) rfl ⟨by decide, by decide⟩ ⟨rfl, Nat.le_of_ble_eq_true rfl⟩ (fun _ h6 => ?_)
  refine q_aload_n C dX8_asks_52 rfl ?_
  refine q_iload C dX8_asks_53 rfl ?_
  refine q_iconst C dX8_asks_55 rfl ?_
  refine q_iconst C dX8_asks_56 rfl ?_
  refine q_callVU C dX8_asks_57 mv8_244 (cq_X8_put w l h6 _ _ _ _) rfl ⟨by decide, by decide⟩ ⟨rfl, Nat.le_of_ble_eq_true rfl⟩ (fun _ h7 => ?_)
  refine q_aload_n C dX8_asks_60 rfl ?_
  refine q_iload C dX8_asks_61 rfl ?_
  refine q_bipush C dX8_asks_63 (by decide) rfl ?_
  refine q_aload_n C dX8_asks_65 rfl ?_
  refine q_getR C dX8_asks_66 fl8_19 rfl ?_
  refine q_iconst C dX8_asks_69 rfl ?_
  refine q_ialdN (j := 0) C dX8_asks_70 ⟨by decide, by decide, rfl⟩ rfl (by decide) ?_
  refine q_callVU C dX8_asks_71 mv8_244 (cq_X8_put w l h7 _ _ _ _) rfl ⟨by decide, by decide⟩ ⟨rfl, Nat.le_of_ble_eq_true rfl⟩ (fun _ h8 => ?_)
  refine q_aload_n C dX8_asks_74 rfl ?_
  refine q_iload C dX8_asks_75 rfl ?_
  refine q_bipush C dX8_asks_77 (by decide) rfl ?_
  refine q_iconst C dX8_asks_79 rfl ?_
  refine q_callVU C dX8_asks_80 mv8_244 (cq_X8_put w l h8 _ _ _ _) rfl ⟨by decide, by decide⟩ ⟨rfl, Nat.le_of_ble_eq_true rfl⟩ (fun _ h9 => ?_)
  refine q_aload_n C dX8_asks_83 rfl ?_
  refine q_iload C dX8_asks_84 rfl ?_
  refine q_bipush C dX8_asks_86 (by decide) rfl ?_
  refine q_iconst C dX8_asks_88 rfl ?_
  refine q_callVU C dX8_asks_89 mv8_244 (cq_X8_put w l h9 _ _ _ _) rfl ⟨by decide, by decide⟩ ⟨rfl, Nat.le_of_ble_eq_true rfl⟩ (fun _ h10 => ?_)
  refine q_aload_n C dX8_asks_92 rfl ?_
  refine q_getR C dX8_asks_93 fl8_19 rfl ?_
  refine q_sipush C dX8_asks_96 (by decide) rfl ?_
  refine q_dup2 C dX8_asks_99 ?_
  refine q_ialdN (j := 404) C dX8_asks_100 ⟨by decide, by decide, rfl⟩ rfl (by decide) ?_
  refine q_iconst C dX8_asks_101 rfl ?_
  refine q_iadd C dX8_asks_102 ?_
  refine q_iastN (j := 404) C dX8_asks_103 ⟨by decide, by decide, rfl⟩ rfl (by decide) (fun h11 => ?_)
  refine q_iload C dX8_asks_104 rfl ?_
  exact q_iret C Z1 Z2 dX8_asks_106
def q_X8_of (h : zH) (a_0 : Nat) (x_1 : Int) (x_2 : Int) : Option Int := zgi 597 (zw (zw (405 + zw (12 * x_1)) + x_2)) (some (h.1 (h.2 a_0 5) (zw (zw (405 + zw (12 * x_1)) + x_2)).toNat))
theorem cq_X8_of (w : zW) (l : Launch) (h : zH) (a_0 : Nat) (x_1 : Int) (x_2 : Int) : zCp w l yX8_of cX8_of 3 (some .int) 0 0 [.inr (8, a_0), .inl x_1, .inl x_2] h qI (q_X8_of h a_0 x_1 x_2) := by
  refine zCp.of (own := RX8) (loc := [some (.inr (8, a_0)), some (.inl x_1), some (.inl x_2)]) (by decide) rfl (Nat.le_of_ble_eq_true rfl) (fun k v hk => ?_) ?_
  · exact zloc_ok 0 rfl hk
  intro p e s m args below meth c C Z1 Z2
  unfold q_X8_of
  refine p_aload_n C dX8_of_0 rfl ?_
  refine p_getR C dX8_of_1 fl8_19 rfl ?_
  refine p_sipush C dX8_of_4 (by decide) rfl ?_
  refine p_bipush C dX8_of_7 (by decide) rfl ?_
  refine p_iload_n C dX8_of_9 rfl ?_
  refine p_imul C dX8_of_10 ?_
  refine p_iadd C dX8_of_11 ?_
  refine p_iload_n C dX8_of_12 rfl ?_
  refine p_iadd C dX8_of_13 ?_
  refine p_iald C dX8_of_14 ⟨by decide, by decide, rfl⟩ ?_
  exact p_iret C Z1 Z2 dX8_of_15
def q_X8_isActive (h : zH) (a_0 : Nat) (x_1 : Int) : Option Int := zbp (q_X8_of h a_0 x_1 5) (fun x1 => if x1 = 1 then (some 1) else (some 0))
theorem cq_X8_isActive (w : zW) (l : Launch) (h : zH) (a_0 : Nat) (x_1 : Int) : zCp w l yX8_isActive cX8_isActive 2 (some .boolean) 1 22 [.inr (8, a_0), .inl x_1] h qI (q_X8_isActive h a_0 x_1) := by
  refine zCp.of (own := RX8) (loc := [some (.inr (8, a_0)), some (.inl x_1)]) (by decide) rfl (Nat.le_of_ble_eq_true rfl) (fun k v hk => ?_) ?_
  · exact zloc_ok 0 rfl hk
  intro p e s m args below meth c C Z1 Z2
  unfold q_X8_isActive
  refine p_aload_n C dX8_isActive_0 rfl ?_
  refine p_iload_n C dX8_isActive_1 rfl ?_
  refine p_iconst C dX8_isActive_2 rfl ?_
  refine p_pcallVI C dX8_isActive_3 mv8_200 (cq_X8_of w l h _ _ _) rfl ⟨by decide, by decide⟩ ⟨rfl, Nat.le_of_ble_eq_true rfl⟩ (fun x1 => ?_)
  refine p_iconst C dX8_isActive_6 rfl ?_
  refine p_icmp_ne C dX8_isActive_7 (tgt := 14) (by decide) ?_ ?_
  · refine p_iconst C dX8_isActive_14 rfl ?_
    exact p_zret C Z1 Z2 (Or.inl rfl) dX8_isActive_15
  · refine p_iconst C dX8_isActive_10 rfl ?_
    refine p_goto C dX8_isActive_11 (tgt := 15) (by decide) ?_
    exact p_zret C Z1 Z2 (Or.inr rfl) dX8_isActive_15
def q_X8_laysBursts_L2 (a0 : Nat) (i1 : Int) (k : Int → zH → Option (Unit × zH)) : Nat → Int → zH → Option (Unit × zH)
  | 0, _, _ => none
  | n + 1, i2, h => if h.1 (h.2 a0 5) 404 ≤ i2 then (k i2 h) else (zbp (q_X8_isActive h a0 i2) (fun x1 => if x1 = 0 then (if (0 : Int) = 0 then (zgi 16 i2 (zlet (zput h (h.2 a0 23) i2.toNat ((-1))) (fun h2 => if (0 : Int) = 0 then (zgi 16 i2 (zlet (zput h2 (h2.2 a0 24) i2.toNat ((-1))) (fun h3 => zlet (zw (i2 + 1)) (fun x4 => q_X8_laysBursts_L2 a0 i1 k n x4 h3)))) else (none)))) else (none)) else (if zand (zshr i1 i2) 1 = 0 then (if (1 : Int) = 0 then (none) else (zbp (q_X8_of h a0 i2 6) (fun x8 => zgi 16 i2 (zlet (zput h (h.2 a0 23) i2.toNat x8) (fun h9 => if (1 : Int) = 0 then (none) else (zbp (q_X8_of h9 a0 i2 7) (fun x10 => zgi 16 i2 (zlet (zput h9 (h9.2 a0 24) i2.toNat x10) (fun h11 => zlet (zw (i2 + 1)) (fun x12 => q_X8_laysBursts_L2 a0 i1 k n x12 h11)))))))))) else (if (0 : Int) = 0 then (zgi 16 i2 (zlet (zput h (h.2 a0 23) i2.toNat ((-1))) (fun h5 => if (0 : Int) = 0 then (zgi 16 i2 (zlet (zput h5 (h5.2 a0 24) i2.toNat ((-1))) (fun h6 => zlet (zw (i2 + 1)) (fun x7 => q_X8_laysBursts_L2 a0 i1 k n x7 h6)))) else (none)))) else (none)))))
def q_X8_laysBursts (h : zH) (a_0 : Nat) (x_1 : Int) : Option (Unit × zH) := q_X8_laysBursts_L2 a_0 x_1 (fun x13 h14 => some ((), h14)) zF 0 h
theorem cq_X8_laysBursts (w : zW) (l : Launch) (h : zH) (a_0 : Nat) (x_1 : Int) : zCq w l yX8_laysBursts cX8_laysBursts 4 none 2 43 [.inr (8, a_0), .inl x_1] h qU (q_X8_laysBursts h a_0 x_1) := by
  refine zCq.of (own := RX8) (loc := [some (.inr (8, a_0)), some (.inl x_1), none, none]) (by decide) rfl (Nat.le_of_ble_eq_true rfl) (fun k v hk => ?_) ?_
  · exact zloc_ok 2 rfl hk
  intro p e s m args below meth c C Z1 Z2
  have L2 : ∀ (a0 : Nat) (i1 : Int) (k : Int → zH → Option (Unit × zH)) (hk : ∀ (u3 : Option zv) (i2 : Int) (h : zH), zQV w p l e (zRm 2 43) s m args below meth c 4 qU (k i2 h) 84 [some (.inr (8, a0)), some (.inl i1), some (.inl i2), u3] [] h) (n : Nat) (u3 : Option zv) (i2 : Int) (h : zH), zQV w p l e (zRm 2 43) s m args below meth c 4 qU (q_X8_laysBursts_L2 a0 i1 k n i2 h) 2 [some (.inr (8, a0)), some (.inl i1), some (.inl i2), u3] [] h := by
    intro a0 i1 k hk n
    induction n with
    | zero =>
      intro u3 i2 h
      exact q_none
    | succ n ih =>
      intro u3 i2 h
      rw [q_X8_laysBursts_L2]
      refine q_iload_n C dX8_laysBursts_2 rfl ?_
      refine q_aload_n C dX8_laysBursts_3 rfl ?_
      refine q_getR C dX8_laysBursts_4 fl8_19 rfl ?_
      refine q_sipush C dX8_laysBursts_7 (by decide) rfl ?_
      refine q_ialdN (j := 404) C dX8_laysBursts_10 ⟨by decide, by decide, rfl⟩ rfl (by decide) ?_
      refine q_icmp_ge C dX8_laysBursts_11 (tgt := 84) (by decide) ?_ ?_
      · exact hk _ i2 h
      · refine q_aload_n C dX8_laysBursts_14 rfl ?_
        refine q_iload_n C dX8_laysBursts_15 rfl ?_
        refine q_pcallVI C dX8_laysBursts_16 mv8_203 (cq_X8_isActive w l h _ _) rfl ⟨by decide, by decide⟩ ⟨rfl, Nat.le_of_ble_eq_true rfl⟩ (fun x1 => ?_)
        refine q_if_eq C dX8_laysBursts_19 (tgt := 34) (by decide) ?_ ?_
        · refine q_iconst C dX8_laysBursts_34 rfl ?_
          refine q_istore_n C dX8_laysBursts_35 (by decide) ?_
          refine q_aload_n C dX8_laysBursts_36 rfl ?_
          refine q_getR C dX8_laysBursts_37 fl8_35 rfl ?_
          refine q_iload_n C dX8_laysBursts_40 rfl ?_
          refine q_iload_n C dX8_laysBursts_41 rfl ?_
          refine q_if_eq C dX8_laysBursts_42 (tgt := 55) (by decide) ?_ ?_
          · refine q_iconst C dX8_laysBursts_55 rfl ?_
            refine q_iast C dX8_laysBursts_56 ⟨by decide, by decide, rfl⟩ (fun h2 => ?_)
            refine q_aload_n C dX8_laysBursts_57 rfl ?_
            refine q_getR C dX8_laysBursts_58 fl8_38 rfl ?_
            refine q_iload_n C dX8_laysBursts_61 rfl ?_
            refine q_iload_n C dX8_laysBursts_62 rfl ?_
            refine q_if_eq C dX8_laysBursts_63 (tgt := 76) (by decide) ?_ ?_
            · refine q_iconst C dX8_laysBursts_76 rfl ?_
              refine q_iast C dX8_laysBursts_77 ⟨by decide, by decide, rfl⟩ (fun h3 => ?_)
              refine q_iincL C dX8_laysBursts_78 rfl (by decide) (fun x4 => ?_)
              refine q_goto C dX8_laysBursts_81 (tgt := 2) (by decide) ?_
              exact ih _ x4 h3
            · exact q_none
          · exact q_none
        · refine q_iload_n C dX8_laysBursts_22 rfl ?_
          refine q_iload_n C dX8_laysBursts_23 rfl ?_
          refine q_ishr C dX8_laysBursts_24 ?_
          refine q_iconst C dX8_laysBursts_25 rfl ?_
          refine q_iand C dX8_laysBursts_26 ?_
          refine q_if_ne C dX8_laysBursts_27 (tgt := 34) (by decide) ?_ ?_
          · refine q_iconst C dX8_laysBursts_34 rfl ?_
            refine q_istore_n C dX8_laysBursts_35 (by decide) ?_
            refine q_aload_n C dX8_laysBursts_36 rfl ?_
            refine q_getR C dX8_laysBursts_37 fl8_35 rfl ?_
            refine q_iload_n C dX8_laysBursts_40 rfl ?_
            refine q_iload_n C dX8_laysBursts_41 rfl ?_
            refine q_if_eq C dX8_laysBursts_42 (tgt := 55) (by decide) ?_ ?_
            · refine q_iconst C dX8_laysBursts_55 rfl ?_
              refine q_iast C dX8_laysBursts_56 ⟨by decide, by decide, rfl⟩ (fun h5 => ?_)
              refine q_aload_n C dX8_laysBursts_57 rfl ?_
              refine q_getR C dX8_laysBursts_58 fl8_38 rfl ?_
              refine q_iload_n C dX8_laysBursts_61 rfl ?_
              refine q_iload_n C dX8_laysBursts_62 rfl ?_
              refine q_if_eq C dX8_laysBursts_63 (tgt := 76) (by decide) ?_ ?_
              · refine q_iconst C dX8_laysBursts_76 rfl ?_
                refine q_iast C dX8_laysBursts_77 ⟨by decide, by decide, rfl⟩ (fun h6 => ?_)
                refine q_iincL C dX8_laysBursts_78 rfl (by decide) (fun x7 => ?_)
                refine q_goto C dX8_laysBursts_81 (tgt := 2) (by decide) ?_
                exact ih _ x7 h6
              · exact q_none
            · exact q_none
          · refine q_iconst C dX8_laysBursts_30 rfl ?_
            refine q_goto C dX8_laysBursts_31 (tgt := 35) (by decide) ?_
            refine q_istore_n C dX8_laysBursts_35 (by decide) ?_
            refine q_aload_n C dX8_laysBursts_36 rfl ?_
            refine q_getR C dX8_laysBursts_37 fl8_35 rfl ?_
            refine q_iload_n C dX8_laysBursts_40 rfl ?_
            refine q_iload_n C dX8_laysBursts_41 rfl ?_
            refine q_if_eq C dX8_laysBursts_42 (tgt := 55) (by decide) ?_ ?_
            · exact q_none
            · refine q_aload_n C dX8_laysBursts_45 rfl ?_
              refine q_iload_n C dX8_laysBursts_46 rfl ?_
              refine q_bipush C dX8_laysBursts_47 (by decide) rfl ?_
              refine q_pcallVI C dX8_laysBursts_49 mv8_200 (cq_X8_of w l h _ _ _) rfl ⟨by decide, by decide⟩ ⟨rfl, Nat.le_of_ble_eq_true rfl⟩ (fun x8 => ?_)
              refine q_goto C dX8_laysBursts_52 (tgt := 56) (by decide) ?_
              refine q_iast C dX8_laysBursts_56 ⟨by decide, by decide, rfl⟩ (fun h9 => ?_)
              refine q_aload_n C dX8_laysBursts_57 rfl ?_
              refine q_getR C dX8_laysBursts_58 fl8_38 rfl ?_
              refine q_iload_n C dX8_laysBursts_61 rfl ?_
              refine q_iload_n C dX8_laysBursts_62 rfl ?_
              refine q_if_eq C dX8_laysBursts_63 (tgt := 76) (by decide) ?_ ?_
              · exact q_none
              · refine q_aload_n C dX8_laysBursts_66 rfl ?_
                refine q_iload_n C dX8_laysBursts_67 rfl ?_
                refine q_bipush C dX8_laysBursts_68 (by decide) rfl ?_
                refine q_pcallVI C dX8_laysBursts_70 mv8_200 (cq_X8_of w l h9 _ _ _) rfl ⟨by decide, by decide⟩ ⟨rfl, Nat.le_of_ble_eq_true rfl⟩ (fun x10 => ?_)
                refine q_goto C dX8_laysBursts_73 (tgt := 77) (by decide) ?_
                refine q_iast C dX8_laysBursts_77 ⟨by decide, by decide, rfl⟩ (fun h11 => ?_)
                refine q_iincL C dX8_laysBursts_78 rfl (by decide) (fun x12 => ?_)
                refine q_goto C dX8_laysBursts_81 (tgt := 2) (by decide) ?_
                exact ih _ x12 h11
  unfold q_X8_laysBursts
  refine q_iconst C dX8_laysBursts_0 rfl ?_
  refine q_istore_n C dX8_laysBursts_1 (by decide) ?_
  refine L2 a_0 x_1 _ ?_ zF _ 0 h
  intro u15 x13 h14
  exact q_vret C Z1 Z2 dX8_laysBursts_84
def q_X8_burst (h : zH) (a_0 : Nat) (x_1 : Int) : Option Int := zbp (q_X8_of h a_0 x_1 3) (fun x1 => some (zw (h.1 (h.2 a_0 5) 4 + x1)))
theorem cq_X8_burst (w : zW) (l : Launch) (h : zH) (a_0 : Nat) (x_1 : Int) : zCp w l yX8_burst cX8_burst 2 (some .int) 1 22 [.inr (8, a_0), .inl x_1] h qI (q_X8_burst h a_0 x_1) := by
  refine zCp.of (own := RX8) (loc := [some (.inr (8, a_0)), some (.inl x_1)]) (by decide) rfl (Nat.le_of_ble_eq_true rfl) (fun k v hk => ?_) ?_
  · exact zloc_ok 0 rfl hk
  intro p e s m args below meth c C Z1 Z2
  unfold q_X8_burst
  refine p_aload_n C dX8_burst_0 rfl ?_
  refine p_getR C dX8_burst_1 fl8_19 rfl ?_
  refine p_iconst C dX8_burst_4 rfl ?_
  refine p_ialdN (j := 4) C dX8_burst_5 ⟨by decide, by decide, rfl⟩ rfl (by decide) ?_
  refine p_aload_n C dX8_burst_6 rfl ?_
  refine p_iload_n C dX8_burst_7 rfl ?_
  refine p_iconst C dX8_burst_8 rfl ?_
  refine p_pcallVI C dX8_burst_9 mv8_200 (cq_X8_of w l h _ _ _) rfl ⟨by decide, by decide⟩ ⟨rfl, Nat.le_of_ble_eq_true rfl⟩ (fun x1 => ?_)
  refine p_iadd C dX8_burst_12 ?_
  exact p_iret C Z1 Z2 dX8_burst_13
def q_X8_isFree_L36 (h : zH) (a0 : Nat) (i1 : Int) (i2 : Int) (i3 : Int) (i4 : Int) (i5 : Int) (k : Int → Option Int) : Nat → Int → Option Int
  | 0, _ => none
  | n + 1, i6 => if h.1 (h.2 a0 5) 404 ≤ i6 then (k i6) else (zgi 16 i6 (if h.1 (h.2 a0 23) i6.toNat = (-1) then (zlet (zw (i6 + 1)) (fun x18 => q_X8_isFree_L36 h a0 i1 i2 i3 i4 i5 k n x18)) else (zgi 16 i6 (if h.1 (h.2 a0 23) i6.toNat = i2 then (if (1 : Int) = 0 then (none) else (zgi 16 i6 (zbp (q_X8_burst h a0 i6) (fun x4 => if zw (zw (h.1 (h.2 a0 24) i6.toNat + x4) + i4) ≤ i3 then (zlet (zw (i6 + 1)) (fun x5 => q_X8_isFree_L36 h a0 i1 i2 i3 i4 i5 k n x5)) else (zgi 16 i6 (if zw (i5 + i4) ≤ h.1 (h.2 a0 24) i6.toNat then (zlet (zw (i6 + 1)) (fun x6 => q_X8_isFree_L36 h a0 i1 i2 i3 i4 i5 k n x6)) else (some 0))))))) else (zbp (q_X8_of h a0 i6 0) (fun x7 => zbp (q_X8_of h a0 i1 0) (fun x8 => if x7 = x8 then (if (1 : Int) = 0 then (none) else (zgi 16 i6 (zbp (q_X8_burst h a0 i6) (fun x9 => if zw (zw (h.1 (h.2 a0 24) i6.toNat + x9) + i4) ≤ i3 then (zlet (zw (i6 + 1)) (fun x10 => q_X8_isFree_L36 h a0 i1 i2 i3 i4 i5 k n x10)) else (zgi 16 i6 (if zw (i5 + i4) ≤ h.1 (h.2 a0 24) i6.toNat then (zlet (zw (i6 + 1)) (fun x11 => q_X8_isFree_L36 h a0 i1 i2 i3 i4 i5 k n x11)) else (some 0))))))) else (zbp (q_X8_of h a0 i6 1) (fun x12 => zbp (q_X8_of h a0 i1 1) (fun x13 => if x12 = x13 then (if (1 : Int) = 0 then (none) else (zgi 16 i6 (zbp (q_X8_burst h a0 i6) (fun x15 => if zw (zw (h.1 (h.2 a0 24) i6.toNat + x15) + i4) ≤ i3 then (zlet (zw (i6 + 1)) (fun x16 => q_X8_isFree_L36 h a0 i1 i2 i3 i4 i5 k n x16)) else (zgi 16 i6 (if zw (i5 + i4) ≤ h.1 (h.2 a0 24) i6.toNat then (zlet (zw (i6 + 1)) (fun x17 => q_X8_isFree_L36 h a0 i1 i2 i3 i4 i5 k n x17)) else (some 0))))))) else (if (0 : Int) = 0 then (zlet (zw (i6 + 1)) (fun x14 => q_X8_isFree_L36 h a0 i1 i2 i3 i4 i5 k n x14)) else (none))))))))))))
def q_X8_isFree (h : zH) (a_0 : Nat) (x_1 : Int) (x_2 : Int) (x_3 : Int) : Option Int := zlet (h.1 (h.2 a_0 5) 2) (fun x1 => zbp (q_X8_burst h a_0 x_1) (fun x2 => zlet (zw (x_3 + x2)) (fun x3 => if zw (x3 + x1) ≤ h.1 (h.2 a_0 5) 1 then (q_X8_isFree_L36 h a_0 x_1 x_2 x_3 x1 x3 (fun x19 => some 1) zF 0) else (some 0))))
theorem cq_X8_isFree (w : zW) (l : Launch) (h : zH) (a_0 : Nat) (x_1 : Int) (x_2 : Int) (x_3 : Int) : zCp w l yX8_isFree cX8_isFree 8 (some .boolean) 2 43 [.inr (8, a_0), .inl x_1, .inl x_2, .inl x_3] h qI (q_X8_isFree h a_0 x_1 x_2 x_3) := by
  refine zCp.of (own := RX8) (loc := [some (.inr (8, a_0)), some (.inl x_1), some (.inl x_2), some (.inl x_3), none, none, none, none]) (by decide) rfl (Nat.le_of_ble_eq_true rfl) (fun k v hk => ?_) ?_
  · exact zloc_ok 4 rfl hk
  intro p e s m args below meth c C Z1 Z2
  have L36 : ∀ (a0 : Nat) (i1 : Int) (i2 : Int) (i3 : Int) (i4 : Int) (i5 : Int) (k : Int → Option Int) (hk : ∀ (u7 : Option zv) (i6 : Int), zQP w p l e (zRm 2 43) s m args below meth c 8 qI (k i6) 162 [some (.inr (8, a0)), some (.inl i1), some (.inl i2), some (.inl i3), some (.inl i4), some (.inl i5), some (.inl i6), u7] [] h) (n : Nat) (u7 : Option zv) (i6 : Int), zQP w p l e (zRm 2 43) s m args below meth c 8 qI (q_X8_isFree_L36 h a0 i1 i2 i3 i4 i5 k n i6) 36 [some (.inr (8, a0)), some (.inl i1), some (.inl i2), some (.inl i3), some (.inl i4), some (.inl i5), some (.inl i6), u7] [] h := by
    intro a0 i1 i2 i3 i4 i5 k hk n
    induction n with
    | zero =>
      intro u7 i6
      exact p_none
    | succ n ih =>
      intro u7 i6
      rw [q_X8_isFree_L36]
      refine p_iload C dX8_isFree_36 rfl ?_
      refine p_aload_n C dX8_isFree_38 rfl ?_
      refine p_getR C dX8_isFree_39 fl8_19 rfl ?_
      refine p_sipush C dX8_isFree_42 (by decide) rfl ?_
      refine p_ialdN (j := 404) C dX8_isFree_45 ⟨by decide, by decide, rfl⟩ rfl (by decide) ?_
      refine p_icmp_ge C dX8_isFree_46 (tgt := 162) (by decide) ?_ ?_
      · exact hk _ i6
      · refine p_aload_n C dX8_isFree_49 rfl ?_
        refine p_getR C dX8_isFree_50 fl8_35 rfl ?_
        refine p_iload C dX8_isFree_53 rfl ?_
        refine p_iald C dX8_isFree_55 ⟨by decide, by decide, rfl⟩ ?_
        refine p_iconst C dX8_isFree_56 rfl ?_
        refine p_icmp_ne C dX8_isFree_57 (tgt := 63) (by decide) ?_ ?_
        · refine p_aload_n C dX8_isFree_63 rfl ?_
          refine p_getR C dX8_isFree_64 fl8_35 rfl ?_
          refine p_iload C dX8_isFree_67 rfl ?_
          refine p_iald C dX8_isFree_69 ⟨by decide, by decide, rfl⟩ ?_
          refine p_iload_n C dX8_isFree_70 rfl ?_
          refine p_icmp_eq C dX8_isFree_71 (tgt := 106) (by decide) ?_ ?_
          · refine p_iconst C dX8_isFree_106 rfl ?_
            refine p_goto C dX8_isFree_107 (tgt := 111) (by decide) ?_
            refine p_istore C dX8_isFree_111 (by decide) ?_
            refine p_iload C dX8_isFree_113 rfl ?_
            refine p_if_eq C dX8_isFree_115 (tgt := 156) (by decide) ?_ ?_
            · exact p_none
            · refine p_iload_n C dX8_isFree_118 rfl ?_
              refine p_aload_n C dX8_isFree_119 rfl ?_
              refine p_getR C dX8_isFree_120 fl8_38 rfl ?_
              refine p_iload C dX8_isFree_123 rfl ?_
              refine p_iald C dX8_isFree_125 ⟨by decide, by decide, rfl⟩ ?_
              refine p_aload_n C dX8_isFree_126 rfl ?_
              refine p_iload C dX8_isFree_127 rfl ?_
              refine p_pcallVI C dX8_isFree_129 mv8_209 (cq_X8_burst w l h _ _) rfl ⟨by decide, by decide⟩ ⟨rfl, Nat.le_of_ble_eq_true rfl⟩ (fun x4 => ?_)
              refine p_iadd C dX8_isFree_132 ?_
              refine p_iload C dX8_isFree_133 rfl ?_
              refine p_iadd C dX8_isFree_135 ?_
              refine p_icmp_ge C dX8_isFree_136 (tgt := 156) (by decide) ?_ ?_
              · refine p_iincL C dX8_isFree_156 rfl (by decide) (fun x5 => ?_)
                refine p_goto C dX8_isFree_159 (tgt := 36) (by decide) ?_
                exact ih _ x5
              · refine p_aload_n C dX8_isFree_139 rfl ?_
                refine p_getR C dX8_isFree_140 fl8_38 rfl ?_
                refine p_iload C dX8_isFree_143 rfl ?_
                refine p_iald C dX8_isFree_145 ⟨by decide, by decide, rfl⟩ ?_
                refine p_iload C dX8_isFree_146 rfl ?_
                refine p_iload C dX8_isFree_148 rfl ?_
                refine p_iadd C dX8_isFree_150 ?_
                refine p_icmp_ge C dX8_isFree_151 (tgt := 156) (by decide) ?_ ?_
                · refine p_iincL C dX8_isFree_156 rfl (by decide) (fun x6 => ?_)
                  refine p_goto C dX8_isFree_159 (tgt := 36) (by decide) ?_
                  exact ih _ x6
                · refine p_iconst C dX8_isFree_154 rfl ?_
                  exact p_zret C Z1 Z2 (Or.inl rfl) dX8_isFree_155
          · refine p_aload_n C dX8_isFree_74 rfl ?_
            refine p_iload C dX8_isFree_75 rfl ?_
            refine p_iconst C dX8_isFree_77 rfl ?_
            refine p_pcallVI C dX8_isFree_78 mv8_200 (cq_X8_of w l h _ _ _) rfl ⟨by decide, by decide⟩ ⟨rfl, Nat.le_of_ble_eq_true rfl⟩ (fun x7 => ?_)
            refine p_aload_n C dX8_isFree_81 rfl ?_
            refine p_iload_n C dX8_isFree_82 rfl ?_
            refine p_iconst C dX8_isFree_83 rfl ?_
            refine p_pcallVI C dX8_isFree_84 mv8_200 (cq_X8_of w l h _ _ _) rfl ⟨by decide, by decide⟩ ⟨rfl, Nat.le_of_ble_eq_true rfl⟩ (fun x8 => ?_)
            refine p_icmp_eq C dX8_isFree_87 (tgt := 106) (by decide) ?_ ?_
            · refine p_iconst C dX8_isFree_106 rfl ?_
              refine p_goto C dX8_isFree_107 (tgt := 111) (by decide) ?_
              refine p_istore C dX8_isFree_111 (by decide) ?_
              refine p_iload C dX8_isFree_113 rfl ?_
              refine p_if_eq C dX8_isFree_115 (tgt := 156) (by decide) ?_ ?_
              · exact p_none
              · refine p_iload_n C dX8_isFree_118 rfl ?_
                refine p_aload_n C dX8_isFree_119 rfl ?_
                refine p_getR C dX8_isFree_120 fl8_38 rfl ?_
                refine p_iload C dX8_isFree_123 rfl ?_
                refine p_iald C dX8_isFree_125 ⟨by decide, by decide, rfl⟩ ?_
                refine p_aload_n C dX8_isFree_126 rfl ?_
                refine p_iload C dX8_isFree_127 rfl ?_
                refine p_pcallVI C dX8_isFree_129 mv8_209 (cq_X8_burst w l h _ _) rfl ⟨by decide, by decide⟩ ⟨rfl, Nat.le_of_ble_eq_true rfl⟩ (fun x9 => ?_)
                refine p_iadd C dX8_isFree_132 ?_
                refine p_iload C dX8_isFree_133 rfl ?_
                refine p_iadd C dX8_isFree_135 ?_
                refine p_icmp_ge C dX8_isFree_136 (tgt := 156) (by decide) ?_ ?_
                · refine p_iincL C dX8_isFree_156 rfl (by decide) (fun x10 => ?_)
                  refine p_goto C dX8_isFree_159 (tgt := 36) (by decide) ?_
                  exact ih _ x10
                · refine p_aload_n C dX8_isFree_139 rfl ?_
                  refine p_getR C dX8_isFree_140 fl8_38 rfl ?_
                  refine p_iload C dX8_isFree_143 rfl ?_
                  refine p_iald C dX8_isFree_145 ⟨by decide, by decide, rfl⟩ ?_
                  refine p_iload C dX8_isFree_146 rfl ?_
                  refine p_iload C dX8_isFree_148 rfl ?_
                  refine p_iadd C dX8_isFree_150 ?_
                  refine p_icmp_ge C dX8_isFree_151 (tgt := 156) (by decide) ?_ ?_
                  · refine p_iincL C dX8_isFree_156 rfl (by decide) (fun x11 => ?_)
                    refine p_goto C dX8_isFree_159 (tgt := 36) (by decide) ?_
                    exact ih _ x11
                  · refine p_iconst C dX8_isFree_154 rfl ?_
                    exact p_zret C Z1 Z2 (Or.inl rfl) dX8_isFree_155
            · refine p_aload_n C dX8_isFree_90 rfl ?_
              refine p_iload C dX8_isFree_91 rfl ?_
              refine p_iconst C dX8_isFree_93 rfl ?_
              refine p_pcallVI C dX8_isFree_94 mv8_200 (cq_X8_of w l h _ _ _) rfl ⟨by decide, by decide⟩ ⟨rfl, Nat.le_of_ble_eq_true rfl⟩ (fun x12 => ?_)
              refine p_aload_n C dX8_isFree_97 rfl ?_
              refine p_iload_n C dX8_isFree_98 rfl ?_
              refine p_iconst C dX8_isFree_99 rfl ?_
              refine p_pcallVI C dX8_isFree_100 mv8_200 (cq_X8_of w l h _ _ _) rfl ⟨by decide, by decide⟩ ⟨rfl, Nat.le_of_ble_eq_true rfl⟩ (fun x13 => ?_)
              refine p_icmp_ne C dX8_isFree_103 (tgt := 110) (by decide) ?_ ?_
              · refine p_iconst C dX8_isFree_110 rfl ?_
                refine p_istore C dX8_isFree_111 (by decide) ?_
                refine p_iload C dX8_isFree_113 rfl ?_
                refine p_if_eq C dX8_isFree_115 (tgt := 156) (by decide) ?_ ?_
                · refine p_iincL C dX8_isFree_156 rfl (by decide) (fun x14 => ?_)
                  refine p_goto C dX8_isFree_159 (tgt := 36) (by decide) ?_
                  exact ih _ x14
                · exact p_none
              · refine p_iconst C dX8_isFree_106 rfl ?_
                refine p_goto C dX8_isFree_107 (tgt := 111) (by decide) ?_
                refine p_istore C dX8_isFree_111 (by decide) ?_
                refine p_iload C dX8_isFree_113 rfl ?_
                refine p_if_eq C dX8_isFree_115 (tgt := 156) (by decide) ?_ ?_
                · exact p_none
                · refine p_iload_n C dX8_isFree_118 rfl ?_
                  refine p_aload_n C dX8_isFree_119 rfl ?_
                  refine p_getR C dX8_isFree_120 fl8_38 rfl ?_
                  refine p_iload C dX8_isFree_123 rfl ?_
                  refine p_iald C dX8_isFree_125 ⟨by decide, by decide, rfl⟩ ?_
                  refine p_aload_n C dX8_isFree_126 rfl ?_
                  refine p_iload C dX8_isFree_127 rfl ?_
                  refine p_pcallVI C dX8_isFree_129 mv8_209 (cq_X8_burst w l h _ _) rfl ⟨by decide, by decide⟩ ⟨rfl, Nat.le_of_ble_eq_true rfl⟩ (fun x15 => ?_)
                  refine p_iadd C dX8_isFree_132 ?_
                  refine p_iload C dX8_isFree_133 rfl ?_
                  refine p_iadd C dX8_isFree_135 ?_
                  refine p_icmp_ge C dX8_isFree_136 (tgt := 156) (by decide) ?_ ?_
                  · refine p_iincL C dX8_isFree_156 rfl (by decide) (fun x16 => ?_)
                    refine p_goto C dX8_isFree_159 (tgt := 36) (by decide) ?_
                    exact ih _ x16
                  · refine p_aload_n C dX8_isFree_139 rfl ?_
                    refine p_getR C dX8_isFree_140 fl8_38 rfl ?_
                    refine p_iload C dX8_isFree_143 rfl ?_
                    refine p_iald C dX8_isFree_145 ⟨by decide, by decide, rfl⟩ ?_
                    refine p_iload C dX8_isFree_146 rfl ?_
                    refine p_iload C dX8_isFree_148 rfl ?_
                    refine p_iadd C dX8_isFree_150 ?_
                    refine p_icmp_ge C dX8_isFree_151 (tgt := 156) (by decide) ?_ ?_
                    · refine p_iincL C dX8_isFree_156 rfl (by decide) (fun x17 => ?_)
                      refine p_goto C dX8_isFree_159 (tgt := 36) (by decide) ?_
                      exact ih _ x17
                    · refine p_iconst C dX8_isFree_154 rfl ?_
                      exact p_zret C Z1 Z2 (Or.inl rfl) dX8_isFree_155
        · refine p_goto C dX8_isFree_60 (tgt := 156) (by decide) ?_
          refine p_iincL C dX8_isFree_156 rfl (by decide) (fun x18 => ?_)
          refine p_goto C dX8_isFree_159 (tgt := 36) (by decide) ?_
          exact ih _ x18
  unfold q_X8_isFree
  refine p_aload_n C dX8_isFree_0 rfl ?_
  refine p_getR C dX8_isFree_1 fl8_19 rfl ?_
  refine p_iconst C dX8_isFree_4 rfl ?_
  refine p_ialdN (j := 2) C dX8_isFree_5 ⟨by decide, by decide, rfl⟩ rfl (by decide) ?_
  refine p_istoreL C dX8_isFree_6 (by decide) (fun x1 => ?_)
  refine p_iload_n C dX8_isFree_8 rfl ?_
  refine p_aload_n C dX8_isFree_9 rfl ?_
  refine p_iload_n C dX8_isFree_10 rfl ?_
  refine p_pcallVI C dX8_isFree_11 mv8_209 (cq_X8_burst w l h _ _) rfl ⟨by decide, by decide⟩ ⟨rfl, Nat.le_of_ble_eq_true rfl⟩ (fun x2 => ?_)
  refine p_iadd C dX8_isFree_14 ?_
  refine p_istoreL C dX8_isFree_15 (by decide) (fun x3 => ?_)
  refine p_iload C dX8_isFree_17 rfl ?_
  refine p_iload C dX8_isFree_19 rfl ?_
  refine p_iadd C dX8_isFree_21 ?_
  refine p_aload_n C dX8_isFree_22 rfl ?_
  refine p_getR C dX8_isFree_23 fl8_19 rfl ?_
  refine p_iconst C dX8_isFree_26 rfl ?_
  refine p_ialdN (j := 1) C dX8_isFree_27 ⟨by decide, by decide, rfl⟩ rfl (by decide) ?_
  refine p_icmp_le C dX8_isFree_28 (tgt := 33) (by decide) ?_ ?_
  · refine p_iconst C dX8_isFree_33 rfl ?_
    refine p_istore C dX8_isFree_34 (by decide) ?_
    refine L36 a_0 x_1 x_2 x_3 x1 x3 _ ?_ zF _ 0
    intro u20 x19
    refine p_iconst C dX8_isFree_162 rfl ?_
    exact p_zret C Z1 Z2 (Or.inr rfl) dX8_isFree_163
  · refine p_iconst C dX8_isFree_31 rfl ?_
    exact p_zret C Z1 Z2 (Or.inl rfl) dX8_isFree_32
def q_X8_triesStart_L2 (a0 : Nat) (i1 : Int) (i2 : Int) (k : Int → zH → Option (Unit × zH)) : Nat → Int → zH → Option (Unit × zH)
  | 0, _, _ => none
  | n + 1, i3, h => if h.1 a0 25 ≤ i3 then (k i3 h) else (if h.1 a0 26 = (-1) then (if (1 : Int) = 0 then (none) else (zbp (q_X8_isFree h a0 i1 i3 i2) (fun x1 => if x1 = 0 then (zlet (zw (i3 + 1)) (fun x5 => q_X8_triesStart_L2 a0 i1 i2 k n x5 h)) else (zlet (zput h a0 26 i3) (fun h2 => zlet (zput h2 a0 27 i2) (fun h3 => zlet (zw (i3 + 1)) (fun x4 => q_X8_triesStart_L2 a0 i1 i2 k n x4 h3))))))) else (if i2 < h.1 a0 27 then (if (1 : Int) = 0 then (none) else (zbp (q_X8_isFree h a0 i1 i3 i2) (fun x6 => if x6 = 0 then (zlet (zw (i3 + 1)) (fun x10 => q_X8_triesStart_L2 a0 i1 i2 k n x10 h)) else (zlet (zput h a0 26 i3) (fun h7 => zlet (zput h7 a0 27 i2) (fun h8 => zlet (zw (i3 + 1)) (fun x9 => q_X8_triesStart_L2 a0 i1 i2 k n x9 h8))))))) else (if i2 = h.1 a0 27 then (if h.1 a0 26 ≤ i3 then (if (0 : Int) = 0 then (zlet (zw (i3 + 1)) (fun x12 => q_X8_triesStart_L2 a0 i1 i2 k n x12 h)) else (none)) else (if (1 : Int) = 0 then (none) else (zbp (q_X8_isFree h a0 i1 i3 i2) (fun x13 => if x13 = 0 then (zlet (zw (i3 + 1)) (fun x17 => q_X8_triesStart_L2 a0 i1 i2 k n x17 h)) else (zlet (zput h a0 26 i3) (fun h14 => zlet (zput h14 a0 27 i2) (fun h15 => zlet (zw (i3 + 1)) (fun x16 => q_X8_triesStart_L2 a0 i1 i2 k n x16 h15)))))))) else (if (0 : Int) = 0 then (zlet (zw (i3 + 1)) (fun x11 => q_X8_triesStart_L2 a0 i1 i2 k n x11 h)) else (none)))))
def q_X8_triesStart (h : zH) (a_0 : Nat) (x_1 : Int) (x_2 : Int) : Option (Unit × zH) := q_X8_triesStart_L2 a_0 x_1 x_2 (fun x18 h19 => some ((), h19)) zF 0 h
theorem cq_X8_triesStart (w : zW) (l : Launch) (h : zH) (a_0 : Nat) (x_1 : Int) (x_2 : Int) : zCq w l yX8_triesStart cX8_triesStart 5 none 3 70 [.inr (8, a_0), .inl x_1, .inl x_2] h qU (q_X8_triesStart h a_0 x_1 x_2) := by
  refine zCq.of (own := RX8) (loc := [some (.inr (8, a_0)), some (.inl x_1), some (.inl x_2), none, none]) (by decide) rfl (Nat.le_of_ble_eq_true rfl) (fun k v hk => ?_) ?_
  · exact zloc_ok 2 rfl hk
  intro p e s m args below meth c C Z1 Z2
  have L2 : ∀ (a0 : Nat) (i1 : Int) (i2 : Int) (k : Int → zH → Option (Unit × zH)) (hk : ∀ (u4 : Option zv) (i3 : Int) (h : zH), zQV w p l e (zRm 3 70) s m args below meth c 5 qU (k i3 h) 83 [some (.inr (8, a0)), some (.inl i1), some (.inl i2), some (.inl i3), u4] [] h) (n : Nat) (u4 : Option zv) (i3 : Int) (h : zH), zQV w p l e (zRm 3 70) s m args below meth c 5 qU (q_X8_triesStart_L2 a0 i1 i2 k n i3 h) 2 [some (.inr (8, a0)), some (.inl i1), some (.inl i2), some (.inl i3), u4] [] h := by
    intro a0 i1 i2 k hk n
    induction n with
    | zero =>
      intro u4 i3 h
      exact q_none
    | succ n ih =>
      intro u4 i3 h
      rw [q_X8_triesStart_L2]
      refine q_iload_n C dX8_triesStart_2 rfl ?_
      refine q_aload_n C dX8_triesStart_3 rfl ?_
      refine q_getI C dX8_triesStart_4 fl8_138 rfl ?_
      refine q_icmp_ge C dX8_triesStart_7 (tgt := 83) (by decide) ?_ ?_
      · exact hk _ i3 h
      · refine q_aload_n C dX8_triesStart_10 rfl ?_
        refine q_getI C dX8_triesStart_11 fl8_230 rfl ?_
        refine q_iconst C dX8_triesStart_14 rfl ?_
        refine q_icmp_eq C dX8_triesStart_15 (tgt := 42) (by decide) ?_ ?_
        · refine q_iconst C dX8_triesStart_42 rfl ?_
          refine q_goto C dX8_triesStart_43 (tgt := 47) (by decide) ?_
          refine q_istore C dX8_triesStart_47 (by decide) ?_
          refine q_iload C dX8_triesStart_49 rfl ?_
          refine q_if_eq C dX8_triesStart_51 (tgt := 77) (by decide) ?_ ?_
          · exact q_none
          · refine q_aload_n C dX8_triesStart_54 rfl ?_
            refine q_iload_n C dX8_triesStart_55 rfl ?_
            refine q_iload_n C dX8_triesStart_56 rfl ?_
            refine q_iload_n C dX8_triesStart_57 rfl ?_
            refine q_pcallVI C dX8_triesStart_58 mv8_236 (cq_X8_isFree w l h _ _ _ _) rfl ⟨by decide, by decide⟩ ⟨rfl, Nat.le_of_ble_eq_true rfl⟩ (fun x1 => ?_)
            refine q_if_ne C dX8_triesStart_61 (tgt := 67) (by decide) ?_ ?_
            · refine q_aload_n C dX8_triesStart_67 rfl ?_
              refine q_iload_n C dX8_triesStart_68 rfl ?_
              refine q_putI C dX8_triesStart_69 pl8_230 rfl (fun h2 => ?_)
              refine q_aload_n C dX8_triesStart_72 rfl ?_
              refine q_iload_n C dX8_triesStart_73 rfl ?_
              refine q_putI C dX8_triesStart_74 pl8_233 rfl (fun h3 => ?_)
              refine q_iincL C dX8_triesStart_77 rfl (by decide) (fun x4 => ?_)
              refine q_goto C dX8_triesStart_80 (tgt := 2) (by decide) ?_
              exact ih _ x4 h3
            · refine q_goto C dX8_triesStart_64 (tgt := 77) (by decide) ?_
              refine q_iincL C dX8_triesStart_77 rfl (by decide) (fun x5 => ?_)
              refine q_goto C dX8_triesStart_80 (tgt := 2) (by decide) ?_
              exact ih _ x5 h
        · refine q_iload_n C dX8_triesStart_18 rfl ?_
          refine q_aload_n C dX8_triesStart_19 rfl ?_
          refine q_getI C dX8_triesStart_20 fl8_233 rfl ?_
          refine q_icmp_lt C dX8_triesStart_23 (tgt := 42) (by decide) ?_ ?_
          · refine q_iconst C dX8_triesStart_42 rfl ?_
            refine q_goto C dX8_triesStart_43 (tgt := 47) (by decide) ?_
            refine q_istore C dX8_triesStart_47 (by decide) ?_
            refine q_iload C dX8_triesStart_49 rfl ?_
            refine q_if_eq C dX8_triesStart_51 (tgt := 77) (by decide) ?_ ?_
            · exact q_none
            · refine q_aload_n C dX8_triesStart_54 rfl ?_
              refine q_iload_n C dX8_triesStart_55 rfl ?_
              refine q_iload_n C dX8_triesStart_56 rfl ?_
              refine q_iload_n C dX8_triesStart_57 rfl ?_
              refine q_pcallVI C dX8_triesStart_58 mv8_236 (cq_X8_isFree w l h _ _ _ _) rfl ⟨by decide, by decide⟩ ⟨rfl, Nat.le_of_ble_eq_true rfl⟩ (fun x6 => ?_)
              refine q_if_ne C dX8_triesStart_61 (tgt := 67) (by decide) ?_ ?_
              · refine q_aload_n C dX8_triesStart_67 rfl ?_
                refine q_iload_n C dX8_triesStart_68 rfl ?_
                refine q_putI C dX8_triesStart_69 pl8_230 rfl (fun h7 => ?_)
                refine q_aload_n C dX8_triesStart_72 rfl ?_
                refine q_iload_n C dX8_triesStart_73 rfl ?_
                refine q_putI C dX8_triesStart_74 pl8_233 rfl (fun h8 => ?_)
                refine q_iincL C dX8_triesStart_77 rfl (by decide) (fun x9 => ?_)
                refine q_goto C dX8_triesStart_80 (tgt := 2) (by decide) ?_
                exact ih _ x9 h8
              · refine q_goto C dX8_triesStart_64 (tgt := 77) (by decide) ?_
                refine q_iincL C dX8_triesStart_77 rfl (by decide) (fun x10 => ?_)
                refine q_goto C dX8_triesStart_80 (tgt := 2) (by decide) ?_
                exact ih _ x10 h
          · refine q_iload_n C dX8_triesStart_26 rfl ?_
            refine q_aload_n C dX8_triesStart_27 rfl ?_
            refine q_getI C dX8_triesStart_28 fl8_233 rfl ?_
            refine q_icmp_ne C dX8_triesStart_31 (tgt := 46) (by decide) ?_ ?_
            · refine q_iconst C dX8_triesStart_46 rfl ?_
              refine q_istore C dX8_triesStart_47 (by decide) ?_
              refine q_iload C dX8_triesStart_49 rfl ?_
              refine q_if_eq C dX8_triesStart_51 (tgt := 77) (by decide) ?_ ?_
              · refine q_iincL C dX8_triesStart_77 rfl (by decide) (fun x11 => ?_)
                refine q_goto C dX8_triesStart_80 (tgt := 2) (by decide) ?_
                exact ih _ x11 h
              · exact q_none
            · refine q_iload_n C dX8_triesStart_34 rfl ?_
              refine q_aload_n C dX8_triesStart_35 rfl ?_
              refine q_getI C dX8_triesStart_36 fl8_230 rfl ?_
              refine q_icmp_ge C dX8_triesStart_39 (tgt := 46) (by decide) ?_ ?_
              · refine q_iconst C dX8_triesStart_46 rfl ?_
                refine q_istore C dX8_triesStart_47 (by decide) ?_
                refine q_iload C dX8_triesStart_49 rfl ?_
                refine q_if_eq C dX8_triesStart_51 (tgt := 77) (by decide) ?_ ?_
                · refine q_iincL C dX8_triesStart_77 rfl (by decide) (fun x12 => ?_)
                  refine q_goto C dX8_triesStart_80 (tgt := 2) (by decide) ?_
                  exact ih _ x12 h
                · exact q_none
              · refine q_iconst C dX8_triesStart_42 rfl ?_
                refine q_goto C dX8_triesStart_43 (tgt := 47) (by decide) ?_
                refine q_istore C dX8_triesStart_47 (by decide) ?_
                refine q_iload C dX8_triesStart_49 rfl ?_
                refine q_if_eq C dX8_triesStart_51 (tgt := 77) (by decide) ?_ ?_
                · exact q_none
                · refine q_aload_n C dX8_triesStart_54 rfl ?_
                  refine q_iload_n C dX8_triesStart_55 rfl ?_
                  refine q_iload_n C dX8_triesStart_56 rfl ?_
                  refine q_iload_n C dX8_triesStart_57 rfl ?_
                  refine q_pcallVI C dX8_triesStart_58 mv8_236 (cq_X8_isFree w l h _ _ _ _) rfl ⟨by decide, by decide⟩ ⟨rfl, Nat.le_of_ble_eq_true rfl⟩ (fun x13 => ?_)
                  refine q_if_ne C dX8_triesStart_61 (tgt := 67) (by decide) ?_ ?_
                  · refine q_aload_n C dX8_triesStart_67 rfl ?_
                    refine q_iload_n C dX8_triesStart_68 rfl ?_
                    refine q_putI C dX8_triesStart_69 pl8_230 rfl (fun h14 => ?_)
                    refine q_aload_n C dX8_triesStart_72 rfl ?_
                    refine q_iload_n C dX8_triesStart_73 rfl ?_
                    refine q_putI C dX8_triesStart_74 pl8_233 rfl (fun h15 => ?_)
                    refine q_iincL C dX8_triesStart_77 rfl (by decide) (fun x16 => ?_)
                    refine q_goto C dX8_triesStart_80 (tgt := 2) (by decide) ?_
                    exact ih _ x16 h15
                  · refine q_goto C dX8_triesStart_64 (tgt := 77) (by decide) ?_
                    refine q_iincL C dX8_triesStart_77 rfl (by decide) (fun x17 => ?_)
                    refine q_goto C dX8_triesStart_80 (tgt := 2) (by decide) ?_
                    exact ih _ x17 h
  unfold q_X8_triesStart
  refine q_iconst C dX8_triesStart_0 rfl ?_
  refine q_istore_n C dX8_triesStart_1 (by decide) ?_
  refine L2 a_0 x_1 x_2 _ ?_ zF _ 0 h
  intro u20 x18 h19
  exact q_vret C Z1 Z2 dX8_triesStart_83
def q_X8_finds_L32 (a0 : Nat) (i1 : Int) (i2 : Int) (k : Int → zH → Option (Int × zH)) : Nat → Int → zH → Option (Int × zH)
  | 0, _, _ => none
  | n + 1, i3, h => if h.1 (h.2 a0 5) 404 ≤ i3 then (k i3 h) else (zgi 16 i3 (if h.1 (h.2 a0 23) i3.toNat = (-1) then (if i2 ≤ i2 then (zlet (zw (i3 + 1)) (fun x10 => q_X8_finds_L32 a0 i1 i2 k n x10 h)) else (zbd (q_X8_triesStart h a0 i1 i2) (fun _ h11 => zlet (zw (i3 + 1)) (fun x12 => q_X8_finds_L32 a0 i1 i2 k n x12 h11)))) else (zgi 16 i3 (zbp (q_X8_burst h a0 i3) (fun x5 => zlet (zw (zw (h.1 (h.2 a0 24) i3.toNat + x5) + h.1 (h.2 a0 5) 2)) (fun x6 => if x6 ≤ i2 then (zlet (zw (i3 + 1)) (fun x7 => q_X8_finds_L32 a0 i1 i2 k n x7 h)) else (zbd (q_X8_triesStart h a0 i1 x6) (fun _ h8 => zlet (zw (i3 + 1)) (fun x9 => q_X8_finds_L32 a0 i1 i2 k n x9 h8)))))))))
def q_X8_finds (h : zH) (a_0 : Nat) (x_1 : Int) : Option (Int × zH) := zlet (zput h a_0 26 ((-1))) (fun h1 => zlet (zput h1 a_0 27 ((-1))) (fun h2 => zlet (zw (h2.1 (h2.2 a_0 5) 3 + h2.1 (h2.2 a_0 5) 2)) (fun x3 => zbd (q_X8_triesStart h2 a_0 x_1 x3) (fun _ h4 => q_X8_finds_L32 a_0 x_1 x3 (fun x13 h14 => if h14.1 a_0 26 = (-1) then (some (0, h14)) else (some (1, h14))) zF 0 h4))))
theorem cq_X8_finds (w : zW) (l : Launch) (h : zH) (a_0 : Nat) (x_1 : Int) : zCq w l yX8_finds cX8_finds 5 (some .boolean) 4 94 [.inr (8, a_0), .inl x_1] h qI (q_X8_finds h a_0 x_1) := by
  refine zCq.of (own := RX8) (loc := [some (.inr (8, a_0)), some (.inl x_1), none, none, none]) (by decide) rfl (Nat.le_of_ble_eq_true rfl) (fun k v hk => ?_) ?_
  · exact zloc_ok 3 rfl hk
  intro p e s m args below meth c C Z1 Z2
  have L32 : ∀ (a0 : Nat) (i1 : Int) (i2 : Int) (k : Int → zH → Option (Int × zH)) (hk : ∀ (u4 : Option zv) (i3 : Int) (h : zH), zQV w p l e (zRm 4 94) s m args below meth c 5 qI (k i3 h) 98 [some (.inr (8, a0)), some (.inl i1), some (.inl i2), some (.inl i3), u4] [] h) (n : Nat) (u4 : Option zv) (i3 : Int) (h : zH), zQV w p l e (zRm 4 94) s m args below meth c 5 qI (q_X8_finds_L32 a0 i1 i2 k n i3 h) 32 [some (.inr (8, a0)), some (.inl i1), some (.inl i2), some (.inl i3), u4] [] h := by
    intro a0 i1 i2 k hk n
    induction n with
    | zero =>
      intro u4 i3 h
      exact q_none
    | succ n ih =>
      intro u4 i3 h
      rw [q_X8_finds_L32]
      refine q_iload_n C dX8_finds_32 rfl ?_
      refine q_aload_n C dX8_finds_33 rfl ?_
      refine q_getR C dX8_finds_34 fl8_19 rfl ?_
      refine q_sipush C dX8_finds_37 (by decide) rfl ?_
      refine q_ialdN (j := 404) C dX8_finds_40 ⟨by decide, by decide, rfl⟩ rfl (by decide) ?_
      refine q_icmp_ge C dX8_finds_41 (tgt := 98) (by decide) ?_ ?_
      · exact hk _ i3 h
      · refine q_aload_n C dX8_finds_44 rfl ?_
        refine q_getR C dX8_finds_45 fl8_35 rfl ?_
        refine q_iload_n C dX8_finds_48 rfl ?_
        refine q_iald C dX8_finds_49 ⟨by decide, by decide, rfl⟩ ?_
        refine q_iconst C dX8_finds_50 rfl ?_
        refine q_icmp_ne C dX8_finds_51 (tgt := 58) (by decide) ?_ ?_
        · refine q_aload_n C dX8_finds_58 rfl ?_
          refine q_getR C dX8_finds_59 fl8_38 rfl ?_
          refine q_iload_n C dX8_finds_62 rfl ?_
          refine q_iald C dX8_finds_63 ⟨by decide, by decide, rfl⟩ ?_
          refine q_aload_n C dX8_finds_64 rfl ?_
          refine q_iload_n C dX8_finds_65 rfl ?_
          refine q_pcallVI C dX8_finds_66 mv8_209 (cq_X8_burst w l h _ _) rfl ⟨by decide, by decide⟩ ⟨rfl, Nat.le_of_ble_eq_true rfl⟩ (fun x5 => ?_)
          refine q_iadd C dX8_finds_69 ?_
          refine q_aload_n C dX8_finds_70 rfl ?_
          refine q_getR C dX8_finds_71 fl8_19 rfl ?_
          refine q_iconst C dX8_finds_74 rfl ?_
          refine q_ialdN (j := 2) C dX8_finds_75 ⟨by decide, by decide, rfl⟩ rfl (by decide) ?_
          refine q_iadd C dX8_finds_76 ?_
          refine q_istoreL C dX8_finds_77 (by decide) (fun x6 => ?_)
          refine q_iload C dX8_finds_79 rfl ?_
          refine q_iload_n C dX8_finds_81 rfl ?_
          refine q_icmp_le C dX8_finds_82 (tgt := 92) (by decide) ?_ ?_
          · refine q_iincL C dX8_finds_92 rfl (by decide) (fun x7 => ?_)
            refine q_goto C dX8_finds_95 (tgt := 32) (by decide) ?_
            exact ih _ x7 h
          · refine q_aload_n C dX8_finds_85 rfl ?_
            refine q_iload_n C dX8_finds_86 rfl ?_
            refine q_iload C dX8_finds_87 rfl ?_
            refine q_callVU C dX8_finds_89 mv8_240 (cq_X8_triesStart w l h _ _ _) rfl ⟨by decide, by decide⟩ ⟨rfl, Nat.le_of_ble_eq_true rfl⟩ (fun _ h8 => ?_)
            refine q_iincL C dX8_finds_92 rfl (by decide) (fun x9 => ?_)
            refine q_goto C dX8_finds_95 (tgt := 32) (by decide) ?_
            exact ih _ x9 h8
        · refine q_iload_n C dX8_finds_54 rfl ?_
          refine q_goto C dX8_finds_55 (tgt := 77) (by decide) ?_
          refine q_istore C dX8_finds_77 (by decide) ?_
          refine q_iload C dX8_finds_79 rfl ?_
          refine q_iload_n C dX8_finds_81 rfl ?_
          refine q_icmp_le C dX8_finds_82 (tgt := 92) (by decide) ?_ ?_
          · refine q_iincL C dX8_finds_92 rfl (by decide) (fun x10 => ?_)
            refine q_goto C dX8_finds_95 (tgt := 32) (by decide) ?_
            exact ih _ x10 h
          · refine q_aload_n C dX8_finds_85 rfl ?_
            refine q_iload_n C dX8_finds_86 rfl ?_
            refine q_iload C dX8_finds_87 rfl ?_
            refine q_callVU C dX8_finds_89 mv8_240 (cq_X8_triesStart w l h _ _ _) rfl ⟨by decide, by decide⟩ ⟨rfl, Nat.le_of_ble_eq_true rfl⟩ (fun _ h11 => ?_)
            refine q_iincL C dX8_finds_92 rfl (by decide) (fun x12 => ?_)
            refine q_goto C dX8_finds_95 (tgt := 32) (by decide) ?_
            exact ih _ x12 h11
  unfold q_X8_finds
  refine q_aload_n C dX8_finds_0 rfl ?_
  refine q_iconst C dX8_finds_1 rfl ?_
  refine q_putI C dX8_finds_2 pl8_230 rfl (fun h1 => ?_)
  refine q_aload_n C dX8_finds_5 rfl ?_
  refine q_iconst C dX8_finds_6 rfl ?_
  refine q_putI C dX8_finds_7 pl8_233 rfl (fun h2 => ?_)
  refine q_aload_n C dX8_finds_10 rfl ?_
  refine q_getR C dX8_finds_11 fl8_19 rfl ?_
  refine q_iconst C dX8_finds_14 rfl ?_
  refine q_ialdN (j := 3) C dX8_finds_15 ⟨by decide, by decide, rfl⟩ rfl (by decide) ?_
  refine q_aload_n C dX8_finds_16 rfl ?_
  refine q_getR C dX8_finds_17 fl8_19 rfl ?_
  refine q_iconst C dX8_finds_20 rfl ?_
  refine q_ialdN (j := 2) C dX8_finds_21 ⟨by decide, by decide, rfl⟩ rfl (by decide) ?_
  refine q_iadd C dX8_finds_22 ?_
  refine q_istore_nL C dX8_finds_23 (by decide) (fun x3 => ?_)
  refine q_aload_n C dX8_finds_24 rfl ?_
  refine q_iload_n C dX8_finds_25 rfl ?_
  refine q_iload_n C dX8_finds_26 rfl ?_
  refine q_callVU C dX8_finds_27 mv8_240 (cq_X8_triesStart w l h2 _ _ _) rfl ⟨by decide, by decide⟩ ⟨rfl, Nat.le_of_ble_eq_true rfl⟩ (fun _ h4 => ?_)
  refine q_iconst C dX8_finds_30 rfl ?_
  refine q_istore_n C dX8_finds_31 (by decide) ?_
  refine L32 a_0 x_1 x3 _ ?_ zF _ 0 h4
  intro u15 x13 h14
  refine q_aload_n C dX8_finds_98 rfl ?_
  refine q_getI C dX8_finds_99 fl8_230 rfl ?_
  refine q_iconst C dX8_finds_102 rfl ?_
  refine q_icmp_eq C dX8_finds_103 (tgt := 110) (by decide) ?_ ?_
  · refine q_iconst C dX8_finds_110 rfl ?_
    exact q_zret C Z1 Z2 (Or.inl rfl) dX8_finds_111
  · refine q_iconst C dX8_finds_106 rfl ?_
    refine q_goto C dX8_finds_107 (tgt := 111) (by decide) ?_
    exact q_zret C Z1 Z2 (Or.inr rfl) dX8_finds_111
def q_X8_assigns (h : zH) (a_0 : Nat) (x_1 : Int) : Option (Int × zH) := zbd (q_X8_laysBursts h a_0 0) (fun _ h1 => zbd (q_X8_finds h1 a_0 x_1) (fun x2 h3 => if x2 = 0 then (some (0, h3)) else (zbd (q_X8_put h3 a_0 x_1 5 1) (fun _ h4 => zbd (q_X8_put h4 a_0 x_1 6 (h4.1 a_0 26)) (fun _ h5 => zbd (q_X8_put h5 a_0 x_1 7 (h5.1 a_0 27)) (fun _ h6 => zbd (q_X8_put h6 a_0 x_1 10 (h6.1 (h6.2 a_0 5) 0)) (fun _ h7 => zbp (q_X8_of h7 a_0 x_1 4) (fun x8 => zbd (q_X8_put h7 a_0 x_1 8 (zw (h7.1 (h7.2 a_0 5) 0 + x8))) (fun _ h9 => some (1, h9))))))))))
theorem cq_X8_assigns (w : zW) (l : Launch) (h : zH) (a_0 : Nat) (x_1 : Int) : zCq w l yX8_assigns cX8_assigns 2 (some .boolean) 5 118 [.inr (8, a_0), .inl x_1] h qI (q_X8_assigns h a_0 x_1) := by
  refine zCq.of (own := RX8) (loc := [some (.inr (8, a_0)), some (.inl x_1)]) (by decide) rfl (Nat.le_of_ble_eq_true rfl) (fun k v hk => ?_) ?_
  · exact zloc_ok 0 rfl hk
  intro p e s m args below meth c C Z1 Z2
  unfold q_X8_assigns
  refine q_aload_n C dX8_assigns_0 rfl ?_
  refine q_iconst C dX8_assigns_1 rfl ?_
  refine q_callVU C dX8_assigns_2 mv8_248 (cq_X8_laysBursts w l h _ _) rfl ⟨by decide, by decide⟩ ⟨rfl, Nat.le_of_ble_eq_true rfl⟩ (fun _ h1 => ?_)
  refine q_aload_n C dX8_assigns_5 rfl ?_
  refine q_iload_n C dX8_assigns_6 rfl ?_
  refine q_callVI C dX8_assigns_7 mv8_251 (cq_X8_finds w l h1 _ _) rfl ⟨by decide, by decide⟩ ⟨rfl, Nat.le_of_ble_eq_true rfl⟩ (fun x2 h3 => ?_)
  refine q_if_ne C dX8_assigns_10 (tgt := 15) (by decide) ?_ ?_
  · refine q_aload_n C dX8_assigns_15 rfl ?_
    refine q_iload_n C dX8_assigns_16 rfl ?_
    refine q_iconst C dX8_assigns_17 rfl ?_
    refine q_iconst C dX8_assigns_18 rfl ?_
    refine q_callVU C dX8_assigns_19 mv8_244 (cq_X8_put w l h3 _ _ _ _) rfl ⟨by decide, by decide⟩ ⟨rfl, Nat.le_of_ble_eq_true rfl⟩ (fun _ h4 => ?_)
    refine q_aload_n C dX8_assigns_22 rfl ?_
    refine q_iload_n C dX8_assigns_23 rfl ?_
    refine q_bipush C dX8_assigns_24 (by decide) rfl ?_
    refine q_aload_n C dX8_assigns_26 rfl ?_
    refine q_getI C dX8_assigns_27 fl8_230 rfl ?_
    refine q_callVU C dX8_assigns_30 mv8_244 (cq_X8_put w l h4 _ _ _ _) rfl ⟨by decide, by decide⟩ ⟨rfl, Nat.le_of_ble_eq_true rfl⟩ (fun _ h5 => ?_)
    refine q_aload_n C dX8_assigns_33 rfl ?_
    refine q_iload_n C dX8_assigns_34 rfl ?_
    refine q_bipush C dX8_assigns_35 (by decide) rfl ?_
    refine q_aload_n C dX8_assigns_37 rfl ?_
    refine q_getI C dX8_assigns_38 fl8_233 rfl ?_
    refine q_callVU C dX8_assigns_41 mv8_244 (cq_X8_put w l h5 _ _ _ _) rfl ⟨by decide, by decide⟩ ⟨rfl, Nat.le_of_ble_eq_true rfl⟩ (fun _ h6 => ?_)
    refine q_aload_n C dX8_assigns_44 rfl ?_
    refine q_iload_n C dX8_assigns_45 rfl ?_
    refine q_bipush C dX8_assigns_46 (by decide) rfl ?_
    refine q_aload_n C dX8_assigns_48 rfl ?_
    refine q_getR C dX8_assigns_49 fl8_19 rfl ?_
    refine q_iconst C dX8_assigns_52 rfl ?_
    refine q_ialdN (j := 0) C dX8_assigns_53 ⟨by decide, by decide, rfl⟩ rfl (by decide) ?_
    refine q_callVU C dX8_assigns_54 mv8_244 (cq_X8_put w l h6 _ _ _ _) rfl ⟨by decide, by decide⟩ ⟨rfl, Nat.le_of_ble_eq_true rfl⟩ (fun _ h7 => ?_)
    refine q_aload_n C dX8_assigns_57 rfl ?_
    refine q_iload_n C dX8_assigns_58 rfl ?_
    refine q_bipush C dX8_assigns_59 (by decide) rfl ?_
    refine q_aload_n C dX8_assigns_61 rfl ?_
    refine q_getR C dX8_assigns_62 fl8_19 rfl ?_
    refine q_iconst C dX8_assigns_65 rfl ?_
    refine q_ialdN (j := 0) C dX8_assigns_66 ⟨by decide, by decide, rfl⟩ rfl (by decide) ?_
    refine q_aload_n C dX8_assigns_67 rfl ?_
    refine q_iload_n C dX8_assigns_68 rfl ?_
    refine q_iconst C dX8_assigns_69 rfl ?_
    refine q_pcallVI C dX8_assigns_70 mv8_200 (cq_X8_of w l h7 _ _ _) rfl ⟨by decide, by decide⟩ ⟨rfl, Nat.le_of_ble_eq_true rfl⟩ (fun x8 => ?_)
    refine q_iadd C dX8_assigns_73 ?_
    refine q_callVU C dX8_assigns_74 mv8_244 (cq_X8_put w l h7 _ _ _ _) rfl ⟨by decide, by decide⟩ ⟨rfl, Nat.le_of_ble_eq_true rfl⟩ (fun _ h9 => ?_)
    refine q_iconst C dX8_assigns_77 rfl ?_
    exact q_zret C Z1 Z2 (Or.inr rfl) dX8_assigns_78
  · refine q_iconst C dX8_assigns_13 rfl ?_
    exact q_zret C Z1 Z2 (Or.inl rfl) dX8_assigns_14
def q_X8_leastOf (h : zH) (x_0 : Int) : Option Int := if x_0 = 0 then (some 200) else (if x_0 = 1 then (some 0) else (if x_0 = 4 then (some 0) else (some 1)))
theorem cq_X8_leastOf (w : zW) (l : Launch) (h : zH) (x_0 : Int) : zCp w l yX8_leastOf cX8_leastOf 1 (some .int) 0 0 [.inl x_0] h qI (q_X8_leastOf h x_0) := by
  refine zCp.of (own := RX8) (loc := [some (.inl x_0)]) (by decide) rfl (Nat.le_of_ble_eq_true rfl) (fun k v hk => ?_) ?_
  · exact zloc_ok 0 rfl hk
  intro p e s m args below meth c C Z1 Z2
  unfold q_X8_leastOf
  refine p_iload_n C dX8_leastOf_0 rfl ?_
  refine p_if_ne C dX8_leastOf_1 (tgt := 10) (by decide) ?_ ?_
  · refine p_iload_n C dX8_leastOf_10 rfl ?_
    refine p_iconst C dX8_leastOf_11 rfl ?_
    refine p_icmp_eq C dX8_leastOf_12 (tgt := 20) (by decide) ?_ ?_
    · refine p_iconst C dX8_leastOf_20 rfl ?_
      refine p_goto C dX8_leastOf_21 (tgt := 25) (by decide) ?_
      exact p_iret C Z1 Z2 dX8_leastOf_25
    · refine p_iload_n C dX8_leastOf_15 rfl ?_
      refine p_iconst C dX8_leastOf_16 rfl ?_
      refine p_icmp_ne C dX8_leastOf_17 (tgt := 24) (by decide) ?_ ?_
      · refine p_iconst C dX8_leastOf_24 rfl ?_
        exact p_iret C Z1 Z2 dX8_leastOf_25
      · refine p_iconst C dX8_leastOf_20 rfl ?_
        refine p_goto C dX8_leastOf_21 (tgt := 25) (by decide) ?_
        exact p_iret C Z1 Z2 dX8_leastOf_25
  · refine p_sipush C dX8_leastOf_4 (by decide) rfl ?_
    refine p_goto C dX8_leastOf_7 (tgt := 25) (by decide) ?_
    exact p_iret C Z1 Z2 dX8_leastOf_25
def q_X8_mostOf (h : zH) (x_0 : Int) : Option Int := if x_0 = 0 then (some 5000) else (if x_0 = 1 then (some 200) else (if x_0 = 2 then (some 500) else (if x_0 = 3 then (some 200) else (if x_0 = 4 then (some 999) else (some 100)))))
theorem cq_X8_mostOf (w : zW) (l : Launch) (h : zH) (x_0 : Int) : zCp w l yX8_mostOf cX8_mostOf 1 (some .int) 0 0 [.inl x_0] h qI (q_X8_mostOf h x_0) := by
  refine zCp.of (own := RX8) (loc := [some (.inl x_0)]) (by decide) rfl (Nat.le_of_ble_eq_true rfl) (fun k v hk => ?_) ?_
  · exact zloc_ok 0 rfl hk
  intro p e s m args below meth c C Z1 Z2
  unfold q_X8_mostOf
  refine p_iload_n C dX8_mostOf_0 rfl ?_
  refine p_tsw5 (t0 := 36) (t1 := 40) (t2 := 44) (t3 := 48) (t4 := 52) (td := 56) C dX8_mostOf_1 ⟨by decide, by decide, by decide, by decide, by decide, by decide⟩ ?_ ?_ ?_ ?_ ?_ ?_
  · refine p_sipush C dX8_mostOf_36 (by decide) rfl ?_
    exact p_iret C Z1 Z2 dX8_mostOf_39
  · refine p_sipush C dX8_mostOf_40 (by decide) rfl ?_
    exact p_iret C Z1 Z2 dX8_mostOf_43
  · refine p_sipush C dX8_mostOf_44 (by decide) rfl ?_
    exact p_iret C Z1 Z2 dX8_mostOf_47
  · refine p_sipush C dX8_mostOf_48 (by decide) rfl ?_
    exact p_iret C Z1 Z2 dX8_mostOf_51
  · refine p_sipush C dX8_mostOf_52 (by decide) rfl ?_
    exact p_iret C Z1 Z2 dX8_mostOf_55
  · refine p_bipush C dX8_mostOf_56 (by decide) rfl ?_
    exact p_iret C Z1 Z2 dX8_mostOf_58
def q_X8_keepsOld_L2 (a0 : Nat) (k : Int → zH → Option (Unit × zH)) : Nat → Int → zH → Option (Unit × zH)
  | 0, _, _ => none
  | n + 1, i1, h => if 597 ≤ i1 then (k i1 h) else (zgi 597 i1 (zgi 597 i1 (zlet (zput h (h.2 a0 6) i1.toNat (h.1 (h.2 a0 5) i1.toNat)) (fun h1 => zlet (zw (i1 + 1)) (fun x2 => q_X8_keepsOld_L2 a0 k n x2 h1)))))
def q_X8_keepsOld (h : zH) (a_0 : Nat) : Option (Unit × zH) := q_X8_keepsOld_L2 a_0 (fun x3 h4 => some ((), h4)) zF 0 h
theorem cq_X8_keepsOld (w : zW) (l : Launch) (h : zH) (a_0 : Nat) : zCq w l yX8_keepsOld cX8_keepsOld 2 none 0 0 [.inr (8, a_0)] h qU (q_X8_keepsOld h a_0) := by
  refine zCq.of (own := RX8) (loc := [some (.inr (8, a_0)), none]) (by decide) rfl (Nat.le_of_ble_eq_true rfl) (fun k v hk => ?_) ?_
  · exact zloc_ok 1 rfl hk
  intro p e s m args below meth c C Z1 Z2
  have L2 : ∀ (a0 : Nat) (k : Int → zH → Option (Unit × zH)) (hk : ∀ (i1 : Int) (h : zH), zQV w p l e (zRm 0 0) s m args below meth c 2 qU (k i1 h) 27 [some (.inr (8, a0)), some (.inl i1)] [] h) (n : Nat) (i1 : Int) (h : zH), zQV w p l e (zRm 0 0) s m args below meth c 2 qU (q_X8_keepsOld_L2 a0 k n i1 h) 2 [some (.inr (8, a0)), some (.inl i1)] [] h := by
    intro a0 k hk n
    induction n with
    | zero =>
      intro i1 h
      exact q_none
    | succ n ih =>
      intro i1 h
      rw [q_X8_keepsOld_L2]
      refine q_iload_n C dX8_keepsOld_2 rfl ?_
      refine q_sipush C dX8_keepsOld_3 (by decide) rfl ?_
      refine q_icmp_ge C dX8_keepsOld_6 (tgt := 27) (by decide) ?_ ?_
      · exact hk i1 h
      · refine q_aload_n C dX8_keepsOld_9 rfl ?_
        refine q_getR C dX8_keepsOld_10 fl8_22 rfl ?_
        refine q_iload_n C dX8_keepsOld_13 rfl ?_
        refine q_aload_n C dX8_keepsOld_14 rfl ?_
        refine q_getR C dX8_keepsOld_15 fl8_19 rfl ?_
        refine q_iload_n C dX8_keepsOld_18 rfl ?_
        refine q_iald C dX8_keepsOld_19 ⟨by decide, by decide, rfl⟩ ?_
        refine q_iast C dX8_keepsOld_20 ⟨by decide, by decide, rfl⟩ (fun h1 => ?_)
        refine q_iincL C dX8_keepsOld_21 rfl (by decide) (fun x2 => ?_)
        refine q_goto C dX8_keepsOld_24 (tgt := 2) (by decide) ?_
        exact ih x2 h1
  unfold q_X8_keepsOld
  refine q_iconst C dX8_keepsOld_0 rfl ?_
  refine q_istore_n C dX8_keepsOld_1 (by decide) ?_
  refine L2 a_0 _ ?_ zF 0 h
  intro x3 h4
  exact q_vret C Z1 Z2 dX8_keepsOld_27
def q_X8_bringsOld_L2 (a0 : Nat) (k : Int → zH → Option (Unit × zH)) : Nat → Int → zH → Option (Unit × zH)
  | 0, _, _ => none
  | n + 1, i1, h => if 597 ≤ i1 then (k i1 h) else (zgi 597 i1 (zgi 597 i1 (zlet (zput h (h.2 a0 5) i1.toNat (h.1 (h.2 a0 6) i1.toNat)) (fun h1 => zlet (zw (i1 + 1)) (fun x2 => q_X8_bringsOld_L2 a0 k n x2 h1)))))
def q_X8_bringsOld (h : zH) (a_0 : Nat) : Option (Unit × zH) := q_X8_bringsOld_L2 a_0 (fun x3 h4 => some ((), h4)) zF 0 h
theorem cq_X8_bringsOld (w : zW) (l : Launch) (h : zH) (a_0 : Nat) : zCq w l yX8_bringsOld cX8_bringsOld 2 none 0 0 [.inr (8, a_0)] h qU (q_X8_bringsOld h a_0) := by
  refine zCq.of (own := RX8) (loc := [some (.inr (8, a_0)), none]) (by decide) rfl (Nat.le_of_ble_eq_true rfl) (fun k v hk => ?_) ?_
  · exact zloc_ok 1 rfl hk
  intro p e s m args below meth c C Z1 Z2
  have L2 : ∀ (a0 : Nat) (k : Int → zH → Option (Unit × zH)) (hk : ∀ (i1 : Int) (h : zH), zQV w p l e (zRm 0 0) s m args below meth c 2 qU (k i1 h) 27 [some (.inr (8, a0)), some (.inl i1)] [] h) (n : Nat) (i1 : Int) (h : zH), zQV w p l e (zRm 0 0) s m args below meth c 2 qU (q_X8_bringsOld_L2 a0 k n i1 h) 2 [some (.inr (8, a0)), some (.inl i1)] [] h := by
    intro a0 k hk n
    induction n with
    | zero =>
      intro i1 h
      exact q_none
    | succ n ih =>
      intro i1 h
      rw [q_X8_bringsOld_L2]
      refine q_iload_n C dX8_bringsOld_2 rfl ?_
      refine q_sipush C dX8_bringsOld_3 (by decide) rfl ?_
      refine q_icmp_ge C dX8_bringsOld_6 (tgt := 27) (by decide) ?_ ?_
      · exact hk i1 h
      · refine q_aload_n C dX8_bringsOld_9 rfl ?_
        refine q_getR C dX8_bringsOld_10 fl8_19 rfl ?_
        refine q_iload_n C dX8_bringsOld_13 rfl ?_
        refine q_aload_n C dX8_bringsOld_14 rfl ?_
        refine q_getR C dX8_bringsOld_15 fl8_22 rfl ?_
        refine q_iload_n C dX8_bringsOld_18 rfl ?_
        refine q_iald C dX8_bringsOld_19 ⟨by decide, by decide, rfl⟩ ?_
        refine q_iast C dX8_bringsOld_20 ⟨by decide, by decide, rfl⟩ (fun h1 => ?_)
        refine q_iincL C dX8_bringsOld_21 rfl (by decide) (fun x2 => ?_)
        refine q_goto C dX8_bringsOld_24 (tgt := 2) (by decide) ?_
        exact ih x2 h1
  unfold q_X8_bringsOld
  refine q_iconst C dX8_bringsOld_0 rfl ?_
  refine q_istore_n C dX8_bringsOld_1 (by decide) ?_
  refine L2 a_0 _ ?_ zF 0 h
  intro x3 h4
  exact q_vret C Z1 Z2 dX8_bringsOld_27
def q_X8_errorPosition (h : zH) (a_0 : Nat) : Option (Int × zH) := zlet (zput h a_0 0 0) (fun h1 => some (h1.1 a_0 17, h1))
theorem cq_X8_errorPosition (w : zW) (l : Launch) (h : zH) (a_0 : Nat) : zCq w l yX8_errorPosition cX8_errorPosition 1 (some .int) 0 0 [.inr (8, a_0)] h qI (q_X8_errorPosition h a_0) := by
  refine zCq.of (own := RX8) (loc := [some (.inr (8, a_0))]) (by decide) rfl (Nat.le_of_ble_eq_true rfl) (fun k v hk => ?_) ?_
  · exact zloc_ok 0 rfl hk
  intro p e s m args below meth c C Z1 Z2
  unfold q_X8_errorPosition
  refine q_aload_n C dX8_errorPosition_0 rfl ?_
  refine q_iconst C dX8_errorPosition_1 rfl ?_
  refine q_putI C dX8_errorPosition_2 pl8_47 rfl (fun h1 => ?_)
  refine q_aload_n C dX8_errorPosition_5 rfl ?_
  refine q_getI C dX8_errorPosition_6 fl8_28 rfl ?_
  exact q_iret C Z1 Z2 dX8_errorPosition_9
def q_X8_isStation (h : zH) (a_0 : Nat) (x_1 : Int) : Option Int := if x_1 < 0 then (some 0) else (if h.1 (h.2 a_0 3) 62 ≤ x_1 then (some 0) else (some 1))
theorem cq_X8_isStation (w : zW) (l : Launch) (h : zH) (a_0 : Nat) (x_1 : Int) : zCp w l yX8_isStation cX8_isStation 2 (some .boolean) 0 0 [.inr (8, a_0), .inl x_1] h qI (q_X8_isStation h a_0 x_1) := by
  refine zCp.of (own := RX8) (loc := [some (.inr (8, a_0)), some (.inl x_1)]) (by decide) rfl (Nat.le_of_ble_eq_true rfl) (fun k v hk => ?_) ?_
  · exact zloc_ok 0 rfl hk
  intro p e s m args below meth c C Z1 Z2
  unfold q_X8_isStation
  refine p_iload_n C dX8_isStation_0 rfl ?_
  refine p_if_lt C dX8_isStation_1 (tgt := 19) (by decide) ?_ ?_
  · refine p_iconst C dX8_isStation_19 rfl ?_
    exact p_zret C Z1 Z2 (Or.inl rfl) dX8_isStation_20
  · refine p_iload_n C dX8_isStation_4 rfl ?_
    refine p_aload_n C dX8_isStation_5 rfl ?_
    refine p_getR C dX8_isStation_6 fl8_13 rfl ?_
    refine p_bipush C dX8_isStation_9 (by decide) rfl ?_
    refine p_ialdN (j := 62) C dX8_isStation_11 ⟨by decide, by decide, rfl⟩ rfl (by decide) ?_
    refine p_icmp_ge C dX8_isStation_12 (tgt := 19) (by decide) ?_ ?_
    · refine p_iconst C dX8_isStation_19 rfl ?_
      exact p_zret C Z1 Z2 (Or.inl rfl) dX8_isStation_20
    · refine p_iconst C dX8_isStation_15 rfl ?_
      refine p_goto C dX8_isStation_16 (tgt := 20) (by decide) ?_
      exact p_zret C Z1 Z2 (Or.inr rfl) dX8_isStation_20
def q_X8_isCall (h : zH) (a_0 : Nat) (x_1 : Int) : Option Int := if x_1 < 0 then (some 0) else (if h.1 (h.2 a_0 5) 404 ≤ x_1 then (some 0) else (some 1))
theorem cq_X8_isCall (w : zW) (l : Launch) (h : zH) (a_0 : Nat) (x_1 : Int) : zCp w l yX8_isCall cX8_isCall 2 (some .boolean) 0 0 [.inr (8, a_0), .inl x_1] h qI (q_X8_isCall h a_0 x_1) := by
  refine zCp.of (own := RX8) (loc := [some (.inr (8, a_0)), some (.inl x_1)]) (by decide) rfl (Nat.le_of_ble_eq_true rfl) (fun k v hk => ?_) ?_
  · exact zloc_ok 0 rfl hk
  intro p e s m args below meth c C Z1 Z2
  unfold q_X8_isCall
  refine p_iload_n C dX8_isCall_0 rfl ?_
  refine p_if_lt C dX8_isCall_1 (tgt := 20) (by decide) ?_ ?_
  · refine p_iconst C dX8_isCall_20 rfl ?_
    exact p_zret C Z1 Z2 (Or.inl rfl) dX8_isCall_21
  · refine p_iload_n C dX8_isCall_4 rfl ?_
    refine p_aload_n C dX8_isCall_5 rfl ?_
    refine p_getR C dX8_isCall_6 fl8_19 rfl ?_
    refine p_sipush C dX8_isCall_9 (by decide) rfl ?_
    refine p_ialdN (j := 404) C dX8_isCall_12 ⟨by decide, by decide, rfl⟩ rfl (by decide) ?_
    refine p_icmp_ge C dX8_isCall_13 (tgt := 20) (by decide) ?_ ?_
    · refine p_iconst C dX8_isCall_20 rfl ?_
      exact p_zret C Z1 Z2 (Or.inl rfl) dX8_isCall_21
    · refine p_iconst C dX8_isCall_16 rfl ?_
      refine p_goto C dX8_isCall_17 (tgt := 21) (by decide) ?_
      exact p_zret C Z1 Z2 (Or.inr rfl) dX8_isCall_21
def q_X8_isCarrier (h : zH) (a_0 : Nat) (x_1 : Int) : Option Int := if x_1 < 0 then (some 0) else (if h.1 (h.2 a_0 3) 64 ≤ x_1 then (some 0) else (some 1))
theorem cq_X8_isCarrier (w : zW) (l : Launch) (h : zH) (a_0 : Nat) (x_1 : Int) : zCp w l yX8_isCarrier cX8_isCarrier 2 (some .boolean) 0 0 [.inr (8, a_0), .inl x_1] h qI (q_X8_isCarrier h a_0 x_1) := by
  refine zCp.of (own := RX8) (loc := [some (.inr (8, a_0)), some (.inl x_1)]) (by decide) rfl (Nat.le_of_ble_eq_true rfl) (fun k v hk => ?_) ?_
  · exact zloc_ok 0 rfl hk
  intro p e s m args below meth c C Z1 Z2
  unfold q_X8_isCarrier
  refine p_iload_n C dX8_isCarrier_0 rfl ?_
  refine p_if_lt C dX8_isCarrier_1 (tgt := 19) (by decide) ?_ ?_
  · refine p_iconst C dX8_isCarrier_19 rfl ?_
    exact p_zret C Z1 Z2 (Or.inl rfl) dX8_isCarrier_20
  · refine p_iload_n C dX8_isCarrier_4 rfl ?_
    refine p_aload_n C dX8_isCarrier_5 rfl ?_
    refine p_getR C dX8_isCarrier_6 fl8_13 rfl ?_
    refine p_bipush C dX8_isCarrier_9 (by decide) rfl ?_
    refine p_ialdN (j := 64) C dX8_isCarrier_11 ⟨by decide, by decide, rfl⟩ rfl (by decide) ?_
    refine p_icmp_ge C dX8_isCarrier_12 (tgt := 19) (by decide) ?_ ?_
    · refine p_iconst C dX8_isCarrier_19 rfl ?_
      exact p_zret C Z1 Z2 (Or.inl rfl) dX8_isCarrier_20
    · refine p_iconst C dX8_isCarrier_15 rfl ?_
      refine p_goto C dX8_isCarrier_16 (tgt := 20) (by decide) ?_
      exact p_zret C Z1 Z2 (Or.inr rfl) dX8_isCarrier_20
def q_X8_isFrame (h : zH) (x_0 : Int) : Option Int := if x_0 < 0 then (some 0) else (if 9999 < x_0 then (some 0) else (some 1))
theorem cq_X8_isFrame (w : zW) (l : Launch) (h : zH) (x_0 : Int) : zCp w l yX8_isFrame cX8_isFrame 1 (some .boolean) 0 0 [.inl x_0] h qI (q_X8_isFrame h x_0) := by
  refine zCp.of (own := RX8) (loc := [some (.inl x_0)]) (by decide) rfl (Nat.le_of_ble_eq_true rfl) (fun k v hk => ?_) ?_
  · exact zloc_ok 0 rfl hk
  intro p e s m args below meth c C Z1 Z2
  unfold q_X8_isFrame
  refine p_iload_n C dX8_isFrame_0 rfl ?_
  refine p_if_lt C dX8_isFrame_1 (tgt := 15) (by decide) ?_ ?_
  · refine p_iconst C dX8_isFrame_15 rfl ?_
    exact p_zret C Z1 Z2 (Or.inl rfl) dX8_isFrame_16
  · refine p_iload_n C dX8_isFrame_4 rfl ?_
    refine p_sipush C dX8_isFrame_5 (by decide) rfl ?_
    refine p_icmp_gt C dX8_isFrame_8 (tgt := 15) (by decide) ?_ ?_
    · refine p_iconst C dX8_isFrame_15 rfl ?_
      exact p_zret C Z1 Z2 (Or.inl rfl) dX8_isFrame_16
    · refine p_iconst C dX8_isFrame_11 rfl ?_
      refine p_goto C dX8_isFrame_12 (tgt := 16) (by decide) ?_
      exact p_zret C Z1 Z2 (Or.inr rfl) dX8_isFrame_16
def q_X8_checks (h : zH) (a_0 : Nat) (x_1 : Int) : Option (Int × zH) := if x_1 = 0 then (zlet (zput h a_0 0 1) (fun h1 => zgb x_1 (some (x_1, h1)))) else (zlet (zput h a_0 0 0) (fun h2 => zgb x_1 (some (x_1, h2))))
theorem cq_X8_checks (w : zW) (l : Launch) (h : zH) (a_0 : Nat) (x_1 : Int) : zCq w l yX8_checks cX8_checks 2 (some .boolean) 0 0 [.inr (8, a_0), .inl x_1] h qI (q_X8_checks h a_0 x_1) := by
  refine zCq.of (own := RX8) (loc := [some (.inr (8, a_0)), some (.inl x_1)]) (by decide) rfl (Nat.le_of_ble_eq_true rfl) (fun k v hk => ?_) ?_
  · exact zloc_ok 0 rfl hk
  intro p e s m args below meth c C Z1 Z2
  unfold q_X8_checks
  refine q_aload_n C dX8_checks_0 rfl ?_
  refine q_iload_n C dX8_checks_1 rfl ?_
  refine q_if_eq C dX8_checks_2 (tgt := 9) (by decide) ?_ ?_
  · refine q_iconst C dX8_checks_9 rfl ?_
    refine q_putI C dX8_checks_10 pl8_47 rfl (fun h1 => ?_)
    refine q_iload_n C dX8_checks_13 rfl ?_
    exact q_zretg C Z1 Z2 dX8_checks_14
  · refine q_iconst C dX8_checks_5 rfl ?_
    refine q_goto C dX8_checks_6 (tgt := 10) (by decide) ?_
    refine q_putI C dX8_checks_10 pl8_47 rfl (fun h2 => ?_)
    refine q_iload_n C dX8_checks_13 rfl ?_
    exact q_zretg C Z1 Z2 dX8_checks_14
def q_X8_stationCount (h : zH) (a_0 : Nat) : Option (Int × zH) := zlet (zput h a_0 0 0) (fun h1 => some (h1.1 (h1.2 a_0 3) 62, h1))
theorem cq_X8_stationCount (w : zW) (l : Launch) (h : zH) (a_0 : Nat) : zCq w l yX8_stationCount cX8_stationCount 1 (some .int) 0 0 [.inr (8, a_0)] h qI (q_X8_stationCount h a_0) := by
  refine zCq.of (own := RX8) (loc := [some (.inr (8, a_0))]) (by decide) rfl (Nat.le_of_ble_eq_true rfl) (fun k v hk => ?_) ?_
  · exact zloc_ok 0 rfl hk
  intro p e s m args below meth c C Z1 Z2
  unfold q_X8_stationCount
  refine q_aload_n C dX8_stationCount_0 rfl ?_
  refine q_iconst C dX8_stationCount_1 rfl ?_
  refine q_putI C dX8_stationCount_2 pl8_47 rfl (fun h1 => ?_)
  refine q_aload_n C dX8_stationCount_5 rfl ?_
  refine q_getR C dX8_stationCount_6 fl8_13 rfl ?_
  refine q_bipush C dX8_stationCount_9 (by decide) rfl ?_
  refine q_ialdN (j := 62) C dX8_stationCount_11 ⟨by decide, by decide, rfl⟩ rfl (by decide) ?_
  exact q_iret C Z1 Z2 dX8_stationCount_12
def q_X8_callCount (h : zH) (a_0 : Nat) : Option (Int × zH) := zlet (zput h a_0 0 0) (fun h1 => some (h1.1 (h1.2 a_0 5) 404, h1))
theorem cq_X8_callCount (w : zW) (l : Launch) (h : zH) (a_0 : Nat) : zCq w l yX8_callCount cX8_callCount 1 (some .int) 0 0 [.inr (8, a_0)] h qI (q_X8_callCount h a_0) := by
  refine zCq.of (own := RX8) (loc := [some (.inr (8, a_0))]) (by decide) rfl (Nat.le_of_ble_eq_true rfl) (fun k v hk => ?_) ?_
  · exact zloc_ok 0 rfl hk
  intro p e s m args below meth c C Z1 Z2
  unfold q_X8_callCount
  refine q_aload_n C dX8_callCount_0 rfl ?_
  refine q_iconst C dX8_callCount_1 rfl ?_
  refine q_putI C dX8_callCount_2 pl8_47 rfl (fun h1 => ?_)
  refine q_aload_n C dX8_callCount_5 rfl ?_
  refine q_getR C dX8_callCount_6 fl8_19 rfl ?_
  refine q_sipush C dX8_callCount_9 (by decide) rfl ?_
  refine q_ialdN (j := 404) C dX8_callCount_12 ⟨by decide, by decide, rfl⟩ rfl (by decide) ?_
  exact q_iret C Z1 Z2 dX8_callCount_13
def q_X8_carrierCount (h : zH) (a_0 : Nat) : Option (Int × zH) := zlet (zput h a_0 0 0) (fun h1 => some (h1.1 (h1.2 a_0 3) 64, h1))
theorem cq_X8_carrierCount (w : zW) (l : Launch) (h : zH) (a_0 : Nat) : zCq w l yX8_carrierCount cX8_carrierCount 1 (some .int) 0 0 [.inr (8, a_0)] h qI (q_X8_carrierCount h a_0) := by
  refine zCq.of (own := RX8) (loc := [some (.inr (8, a_0))]) (by decide) rfl (Nat.le_of_ble_eq_true rfl) (fun k v hk => ?_) ?_
  · exact zloc_ok 0 rfl hk
  intro p e s m args below meth c C Z1 Z2
  unfold q_X8_carrierCount
  refine q_aload_n C dX8_carrierCount_0 rfl ?_
  refine q_iconst C dX8_carrierCount_1 rfl ?_
  refine q_putI C dX8_carrierCount_2 pl8_47 rfl (fun h1 => ?_)
  refine q_aload_n C dX8_carrierCount_5 rfl ?_
  refine q_getR C dX8_carrierCount_6 fl8_13 rfl ?_
  refine q_bipush C dX8_carrierCount_9 (by decide) rfl ?_
  refine q_ialdN (j := 64) C dX8_carrierCount_11 ⟨by decide, by decide, rfl⟩ rfl (by decide) ?_
  exact q_iret C Z1 Z2 dX8_carrierCount_12
def q_X8_undoCount (h : zH) (a_0 : Nat) : Option (Int × zH) := zlet (zput h a_0 0 0) (fun h1 => some (h1.1 a_0 8, h1))
theorem cq_X8_undoCount (w : zW) (l : Launch) (h : zH) (a_0 : Nat) : zCq w l yX8_undoCount cX8_undoCount 1 (some .int) 0 0 [.inr (8, a_0)] h qI (q_X8_undoCount h a_0) := by
  refine zCq.of (own := RX8) (loc := [some (.inr (8, a_0))]) (by decide) rfl (Nat.le_of_ble_eq_true rfl) (fun k v hk => ?_) ?_
  · exact zloc_ok 0 rfl hk
  intro p e s m args below meth c C Z1 Z2
  unfold q_X8_undoCount
  refine q_aload_n C dX8_undoCount_0 rfl ?_
  refine q_iconst C dX8_undoCount_1 rfl ?_
  refine q_putI C dX8_undoCount_2 pl8_47 rfl (fun h1 => ?_)
  refine q_aload_n C dX8_undoCount_5 rfl ?_
  refine q_getI C dX8_undoCount_6 fl8_175 rfl ?_
  exact q_iret C Z1 Z2 dX8_undoCount_9
def q_X8_stationNamed (h : zH) (a_0 : Nat) (x_1 : Int) : Option (Int × zH) := zlet (zput h a_0 0 0) (fun h1 => zbp (q_X8_found h1 (h1.2 a_0 3) x_1) (fun x2 => some (x2, h1)))
theorem cq_X8_stationNamed (w : zW) (l : Launch) (h : zH) (a_0 : Nat) (x_1 : Int) : zCq w l yX8_stationNamed cX8_stationNamed 2 (some .int) 1 22 [.inr (8, a_0), .inl x_1] h qI (q_X8_stationNamed h a_0 x_1) := by
  refine zCq.of (own := RX8) (loc := [some (.inr (8, a_0)), some (.inl x_1)]) (by decide) rfl (Nat.le_of_ble_eq_true rfl) (fun k v hk => ?_) ?_
  · exact zloc_ok 0 rfl hk
  intro p e s m args below meth c C Z1 Z2
  unfold q_X8_stationNamed
  refine q_aload_n C dX8_stationNamed_0 rfl ?_
  refine q_iconst C dX8_stationNamed_1 rfl ?_
  refine q_putI C dX8_stationNamed_2 pl8_47 rfl (fun h1 => ?_)
  refine q_aload_n C dX8_stationNamed_5 rfl ?_
  refine q_getR C dX8_stationNamed_6 fl8_13 rfl ?_
  refine q_iload_n C dX8_stationNamed_9 rfl ?_
  refine q_pcallSI C dX8_stationNamed_10 ms8_126 (cq_X8_found w l h1 _ _) rfl ⟨by decide, by decide⟩ ⟨rfl, Nat.le_of_ble_eq_true rfl⟩ (fun x2 => ?_)
  exact q_iret C Z1 Z2 dX8_stationNamed_13
def q_X8_now (h : zH) (a_0 : Nat) : Option (Int × zH) := zlet (zput h a_0 0 0) (fun h1 => some (h1.1 (h1.2 a_0 5) 0, h1))
theorem cq_X8_now (w : zW) (l : Launch) (h : zH) (a_0 : Nat) : zCq w l yX8_now cX8_now 1 (some .int) 0 0 [.inr (8, a_0)] h qI (q_X8_now h a_0) := by
  refine zCq.of (own := RX8) (loc := [some (.inr (8, a_0))]) (by decide) rfl (Nat.le_of_ble_eq_true rfl) (fun k v hk => ?_) ?_
  · exact zloc_ok 0 rfl hk
  intro p e s m args below meth c C Z1 Z2
  unfold q_X8_now
  refine q_aload_n C dX8_now_0 rfl ?_
  refine q_iconst C dX8_now_1 rfl ?_
  refine q_putI C dX8_now_2 pl8_47 rfl (fun h1 => ?_)
  refine q_aload_n C dX8_now_5 rfl ?_
  refine q_getR C dX8_now_6 fl8_19 rfl ?_
  refine q_iconst C dX8_now_9 rfl ?_
  refine q_ialdN (j := 0) C dX8_now_10 ⟨by decide, by decide, rfl⟩ rfl (by decide) ?_
  exact q_iret C Z1 Z2 dX8_now_11
def q_X8_getSetting (h : zH) (a_0 : Nat) (x_1 : Int) : Option (Int × zH) := zlet (zput h a_0 0 0) (fun h1 => if x_1 < 0 then (some ((-2), h1)) else (if 6 < x_1 then (some ((-2), h1)) else (zgi 597 (zw (1 + x_1)) (some (h1.1 (h1.2 a_0 5) (zw (1 + x_1)).toNat, h1)))))
theorem cq_X8_getSetting (w : zW) (l : Launch) (h : zH) (a_0 : Nat) (x_1 : Int) : zCq w l yX8_getSetting cX8_getSetting 2 (some .int) 0 0 [.inr (8, a_0), .inl x_1] h qI (q_X8_getSetting h a_0 x_1) := by
  refine zCq.of (own := RX8) (loc := [some (.inr (8, a_0)), some (.inl x_1)]) (by decide) rfl (Nat.le_of_ble_eq_true rfl) (fun k v hk => ?_) ?_
  · exact zloc_ok 0 rfl hk
  intro p e s m args below meth c C Z1 Z2
  unfold q_X8_getSetting
  refine q_aload_n C dX8_getSetting_0 rfl ?_
  refine q_iconst C dX8_getSetting_1 rfl ?_
  refine q_putI C dX8_getSetting_2 pl8_47 rfl (fun h1 => ?_)
  refine q_iload_n C dX8_getSetting_5 rfl ?_
  refine q_if_lt C dX8_getSetting_6 (tgt := 26) (by decide) ?_ ?_
  · refine q_bipush C dX8_getSetting_26 (by decide) rfl ?_
    exact q_iret C Z1 Z2 dX8_getSetting_28
  · refine q_iload_n C dX8_getSetting_9 rfl ?_
    refine q_bipush C dX8_getSetting_10 (by decide) rfl ?_
    refine q_icmp_gt C dX8_getSetting_12 (tgt := 26) (by decide) ?_ ?_
    · refine q_bipush C dX8_getSetting_26 (by decide) rfl ?_
      exact q_iret C Z1 Z2 dX8_getSetting_28
    · refine q_aload_n C dX8_getSetting_15 rfl ?_
      refine q_getR C dX8_getSetting_16 fl8_19 rfl ?_
      refine q_iconst C dX8_getSetting_19 rfl ?_
      refine q_iload_n C dX8_getSetting_20 rfl ?_
      refine q_iadd C dX8_getSetting_21 ?_
      refine q_iald C dX8_getSetting_22 ⟨by decide, by decide, rfl⟩ ?_
      refine q_goto C dX8_getSetting_23 (tgt := 28) (by decide) ?_
      exact q_iret C Z1 Z2 dX8_getSetting_28
def q_X8_fadeOf_L5 (h : zH) (a0 : Nat) (i1 : Int) (i2 : Int) (k : Int → Int → Option Int) : Nat → Int → Int → Option Int
  | 0, _, _ => none
  | n + 1, i3, i4 => if h.1 (h.2 a0 3) 63 ≤ i4 then (k i3 i4) else (zgi 65 (zw (30 + i4)) (if h.1 (h.2 a0 3) (zw (30 + i4)).toNat = i1 then (zgi 65 (zw (38 + i4)) (if i2 < h.1 (h.2 a0 3) (zw (38 + i4)).toNat then (if (0 : Int) = 0 then (zlet (zw (i3 + 0)) (fun x3 => zlet (zw (i4 + 1)) (fun x4 => q_X8_fadeOf_L5 h a0 i1 i2 k n x3 x4))) else (none)) else (zgi 65 (zw (46 + i4)) (if h.1 (h.2 a0 3) (zw (46 + i4)).toNat < i2 then (if (0 : Int) = 0 then (zlet (zw (i3 + 0)) (fun x5 => zlet (zw (i4 + 1)) (fun x6 => q_X8_fadeOf_L5 h a0 i1 i2 k n x5 x6))) else (none)) else (if (1 : Int) = 0 then (none) else (zgi 65 (zw (54 + i4)) (zlet (zw (i3 + h.1 (h.2 a0 3) (zw (54 + i4)).toNat)) (fun x7 => zlet (zw (i4 + 1)) (fun x8 => q_X8_fadeOf_L5 h a0 i1 i2 k n x7 x8))))))))) else (if (0 : Int) = 0 then (zlet (zw (i3 + 0)) (fun x1 => zlet (zw (i4 + 1)) (fun x2 => q_X8_fadeOf_L5 h a0 i1 i2 k n x1 x2))) else (none))))
def q_X8_fadeOf (h : zH) (a_0 : Nat) (x_1 : Int) (x_2 : Int) : Option Int := q_X8_fadeOf_L5 h a_0 x_1 x_2 (fun x9 x10 => some x9) zF 0 0
theorem cq_X8_fadeOf (w : zW) (l : Launch) (h : zH) (a_0 : Nat) (x_1 : Int) (x_2 : Int) : zCp w l yX8_fadeOf cX8_fadeOf 6 (some .int) 0 0 [.inr (8, a_0), .inl x_1, .inl x_2] h qI (q_X8_fadeOf h a_0 x_1 x_2) := by
  refine zCp.of (own := RX8) (loc := [some (.inr (8, a_0)), some (.inl x_1), some (.inl x_2), none, none, none]) (by decide) rfl (Nat.le_of_ble_eq_true rfl) (fun k v hk => ?_) ?_
  · exact zloc_ok 3 rfl hk
  intro p e s m args below meth c C Z1 Z2
  have L5 : ∀ (a0 : Nat) (i1 : Int) (i2 : Int) (k : Int → Int → Option Int) (hk : ∀ (u5 : Option zv) (i3 : Int) (i4 : Int), zQP w p l e (zRm 0 0) s m args below meth c 6 qI (k i3 i4) 94 [some (.inr (8, a0)), some (.inl i1), some (.inl i2), some (.inl i3), some (.inl i4), u5] [] h) (n : Nat) (u5 : Option zv) (i3 : Int) (i4 : Int), zQP w p l e (zRm 0 0) s m args below meth c 6 qI (q_X8_fadeOf_L5 h a0 i1 i2 k n i3 i4) 5 [some (.inr (8, a0)), some (.inl i1), some (.inl i2), some (.inl i3), some (.inl i4), u5] [] h := by
    intro a0 i1 i2 k hk n
    induction n with
    | zero =>
      intro u5 i3 i4
      exact p_none
    | succ n ih =>
      intro u5 i3 i4
      rw [q_X8_fadeOf_L5]
      refine p_iload C dX8_fadeOf_5 rfl ?_
      refine p_aload_n C dX8_fadeOf_7 rfl ?_
      refine p_getR C dX8_fadeOf_8 fl8_13 rfl ?_
      refine p_bipush C dX8_fadeOf_11 (by decide) rfl ?_
      refine p_ialdN (j := 63) C dX8_fadeOf_13 ⟨by decide, by decide, rfl⟩ rfl (by decide) ?_
      refine p_icmp_ge C dX8_fadeOf_14 (tgt := 94) (by decide) ?_ ?_
      · exact hk _ i3 i4
      · refine p_aload_n C dX8_fadeOf_17 rfl ?_
        refine p_getR C dX8_fadeOf_18 fl8_13 rfl ?_
        refine p_bipush C dX8_fadeOf_21 (by decide) rfl ?_
        refine p_iload C dX8_fadeOf_23 rfl ?_
        refine p_iadd C dX8_fadeOf_25 ?_
        refine p_iald C dX8_fadeOf_26 ⟨by decide, by decide, rfl⟩ ?_
        refine p_iload_n C dX8_fadeOf_27 rfl ?_
        refine p_icmp_ne C dX8_fadeOf_28 (tgt := 63) (by decide) ?_ ?_
        · refine p_iconst C dX8_fadeOf_63 rfl ?_
          refine p_istore C dX8_fadeOf_64 (by decide) ?_
          refine p_iload_n C dX8_fadeOf_66 rfl ?_
          refine p_iload C dX8_fadeOf_67 rfl ?_
          refine p_if_eq C dX8_fadeOf_69 (tgt := 85) (by decide) ?_ ?_
          · refine p_iconst C dX8_fadeOf_85 rfl ?_
            refine p_iadd C dX8_fadeOf_86 ?_
            refine p_istore_nL C dX8_fadeOf_87 (by decide) (fun x1 => ?_)
            refine p_iincL C dX8_fadeOf_88 rfl (by decide) (fun x2 => ?_)
            refine p_goto C dX8_fadeOf_91 (tgt := 5) (by decide) ?_
            exact ih _ x1 x2
          · exact p_none
        · refine p_iload_n C dX8_fadeOf_31 rfl ?_
          refine p_aload_n C dX8_fadeOf_32 rfl ?_
          refine p_getR C dX8_fadeOf_33 fl8_13 rfl ?_
          refine p_bipush C dX8_fadeOf_36 (by decide) rfl ?_
          refine p_iload C dX8_fadeOf_38 rfl ?_
          refine p_iadd C dX8_fadeOf_40 ?_
          refine p_iald C dX8_fadeOf_41 ⟨by decide, by decide, rfl⟩ ?_
          refine p_icmp_lt C dX8_fadeOf_42 (tgt := 63) (by decide) ?_ ?_
          · refine p_iconst C dX8_fadeOf_63 rfl ?_
            refine p_istore C dX8_fadeOf_64 (by decide) ?_
            refine p_iload_n C dX8_fadeOf_66 rfl ?_
            refine p_iload C dX8_fadeOf_67 rfl ?_
            refine p_if_eq C dX8_fadeOf_69 (tgt := 85) (by decide) ?_ ?_
            · refine p_iconst C dX8_fadeOf_85 rfl ?_
              refine p_iadd C dX8_fadeOf_86 ?_
              refine p_istore_nL C dX8_fadeOf_87 (by decide) (fun x3 => ?_)
              refine p_iincL C dX8_fadeOf_88 rfl (by decide) (fun x4 => ?_)
              refine p_goto C dX8_fadeOf_91 (tgt := 5) (by decide) ?_
              exact ih _ x3 x4
            · exact p_none
          · refine p_iload_n C dX8_fadeOf_45 rfl ?_
            refine p_aload_n C dX8_fadeOf_46 rfl ?_
            refine p_getR C dX8_fadeOf_47 fl8_13 rfl ?_
            refine p_bipush C dX8_fadeOf_50 (by decide) rfl ?_
            refine p_iload C dX8_fadeOf_52 rfl ?_
            refine p_iadd C dX8_fadeOf_54 ?_
            refine p_iald C dX8_fadeOf_55 ⟨by decide, by decide, rfl⟩ ?_
            refine p_icmp_gt C dX8_fadeOf_56 (tgt := 63) (by decide) ?_ ?_
            · refine p_iconst C dX8_fadeOf_63 rfl ?_
              refine p_istore C dX8_fadeOf_64 (by decide) ?_
              refine p_iload_n C dX8_fadeOf_66 rfl ?_
              refine p_iload C dX8_fadeOf_67 rfl ?_
              refine p_if_eq C dX8_fadeOf_69 (tgt := 85) (by decide) ?_ ?_
              · refine p_iconst C dX8_fadeOf_85 rfl ?_
                refine p_iadd C dX8_fadeOf_86 ?_
                refine p_istore_nL C dX8_fadeOf_87 (by decide) (fun x5 => ?_)
                refine p_iincL C dX8_fadeOf_88 rfl (by decide) (fun x6 => ?_)
                refine p_goto C dX8_fadeOf_91 (tgt := 5) (by decide) ?_
                exact ih _ x5 x6
              · exact p_none
            · refine p_iconst C dX8_fadeOf_59 rfl ?_
              refine p_goto C dX8_fadeOf_60 (tgt := 64) (by decide) ?_
              refine p_istore C dX8_fadeOf_64 (by decide) ?_
              refine p_iload_n C dX8_fadeOf_66 rfl ?_
              refine p_iload C dX8_fadeOf_67 rfl ?_
              refine p_if_eq C dX8_fadeOf_69 (tgt := 85) (by decide) ?_ ?_
              · exact p_none
              · refine p_aload_n C dX8_fadeOf_72 rfl ?_
                refine p_getR C dX8_fadeOf_73 fl8_13 rfl ?_
                refine p_bipush C dX8_fadeOf_76 (by decide) rfl ?_
                refine p_iload C dX8_fadeOf_78 rfl ?_
                refine p_iadd C dX8_fadeOf_80 ?_
                refine p_iald C dX8_fadeOf_81 ⟨by decide, by decide, rfl⟩ ?_
                refine p_goto C dX8_fadeOf_82 (tgt := 86) (by decide) ?_
                refine p_iadd C dX8_fadeOf_86 ?_
                refine p_istore_nL C dX8_fadeOf_87 (by decide) (fun x7 => ?_)
                refine p_iincL C dX8_fadeOf_88 rfl (by decide) (fun x8 => ?_)
                refine p_goto C dX8_fadeOf_91 (tgt := 5) (by decide) ?_
                exact ih _ x7 x8
  unfold q_X8_fadeOf
  refine p_iconst C dX8_fadeOf_0 rfl ?_
  refine p_istore_n C dX8_fadeOf_1 (by decide) ?_
  refine p_iconst C dX8_fadeOf_2 rfl ?_
  refine p_istore C dX8_fadeOf_3 (by decide) ?_
  refine L5 a_0 x_1 x_2 _ ?_ zF _ 0 0
  intro u11 x9 x10
  refine p_iload_n C dX8_fadeOf_94 rfl ?_
  exact p_iret C Z1 Z2 dX8_fadeOf_95
def q_X8_fade (h : zH) (a_0 : Nat) (x_1 : Int) (x_2 : Int) : Option (Int × zH) := zbp (q_X8_isStation h a_0 x_1) (fun x1 => zbd (q_X8_checks h a_0 x1) (fun x2 h3 => if x2 = 0 then (some (0, h3)) else (zbp (q_X8_isFrame h3 x_2) (fun x4 => if x4 = 0 then (some ((-2), h3)) else (zbp (q_X8_fadeOf h3 a_0 x_1 x_2) (fun x5 => some (x5, h3)))))))
theorem cq_X8_fade (w : zW) (l : Launch) (h : zH) (a_0 : Nat) (x_1 : Int) (x_2 : Int) : zCq w l yX8_fade cX8_fade 3 (some .int) 1 25 [.inr (8, a_0), .inl x_1, .inl x_2] h qI (q_X8_fade h a_0 x_1 x_2) := by
  refine zCq.of (own := RX8) (loc := [some (.inr (8, a_0)), some (.inl x_1), some (.inl x_2)]) (by decide) rfl (Nat.le_of_ble_eq_true rfl) (fun k v hk => ?_) ?_
  · exact zloc_ok 0 rfl hk
  intro p e s m args below meth c C Z1 Z2
  unfold q_X8_fade
  refine q_aload_n C dX8_fade_0 rfl ?_
  refine q_aload_n C dX8_fade_1 rfl ?_
  refine q_iload_n C dX8_fade_2 rfl ?_
  refine q_pcallVI C dX8_fade_3 mv8_178 (cq_X8_isStation w l h _ _) rfl ⟨by decide, by decide⟩ ⟨rfl, Nat.le_of_ble_eq_true rfl⟩ (fun x1 => ?_)
  refine q_callVI C dX8_fade_6 mv8_181 (cq_X8_checks w l h _ _) rfl ⟨by decide, by decide⟩ ⟨rfl, Nat.le_of_ble_eq_true rfl⟩ (fun x2 h3 => ?_)
  refine q_if_ne C dX8_fade_9 (tgt := 14) (by decide) ?_ ?_
  · refine q_iload_n C dX8_fade_14 rfl ?_
    refine q_pcallSI C dX8_fade_15 ms8_185 (cq_X8_isFrame w l h3 _) rfl ⟨by decide, by decide⟩ ⟨rfl, Nat.le_of_ble_eq_true rfl⟩ (fun x4 => ?_)
    refine q_if_eq C dX8_fade_18 (tgt := 30) (by decide) ?_ ?_
    · refine q_bipush C dX8_fade_30 (by decide) rfl ?_
      exact q_iret C Z1 Z2 dX8_fade_32
    · refine q_aload_n C dX8_fade_21 rfl ?_
      refine q_iload_n C dX8_fade_22 rfl ?_
      refine q_iload_n C dX8_fade_23 rfl ?_
      refine q_pcallVI C dX8_fade_24 mv8_188 (cq_X8_fadeOf w l h3 _ _ _) rfl ⟨by decide, by decide⟩ ⟨rfl, Nat.le_of_ble_eq_true rfl⟩ (fun x5 => ?_)
      refine q_goto C dX8_fade_27 (tgt := 32) (by decide) ?_
      exact q_iret C Z1 Z2 dX8_fade_32
  · refine q_iconst C dX8_fade_12 rfl ?_
    exact q_iret C Z1 Z2 dX8_fade_13
def q_X8_power (h : zH) (a_0 : Nat) (x_1 : Int) : Option (Int × zH) := zbp (q_X8_isStation h a_0 x_1) (fun x1 => zbd (q_X8_checks h a_0 x1) (fun x2 h3 => if x2 = 0 then (some (0, h3)) else (zgi 597 (zw (8 + x_1)) (some (h3.1 (h3.2 a_0 5) (zw (8 + x_1)).toNat, h3)))))
theorem cq_X8_power (w : zW) (l : Launch) (h : zH) (a_0 : Nat) (x_1 : Int) : zCq w l yX8_power cX8_power 2 (some .int) 1 21 [.inr (8, a_0), .inl x_1] h qI (q_X8_power h a_0 x_1) := by
  refine zCq.of (own := RX8) (loc := [some (.inr (8, a_0)), some (.inl x_1)]) (by decide) rfl (Nat.le_of_ble_eq_true rfl) (fun k v hk => ?_) ?_
  · exact zloc_ok 0 rfl hk
  intro p e s m args below meth c C Z1 Z2
  unfold q_X8_power
  refine q_aload_n C dX8_power_0 rfl ?_
  refine q_aload_n C dX8_power_1 rfl ?_
  refine q_iload_n C dX8_power_2 rfl ?_
  refine q_pcallVI C dX8_power_3 mv8_178 (cq_X8_isStation w l h _ _) rfl ⟨by decide, by decide⟩ ⟨rfl, Nat.le_of_ble_eq_true rfl⟩ (fun x1 => ?_)
  refine q_callVI C dX8_power_6 mv8_181 (cq_X8_checks w l h _ _) rfl ⟨by decide, by decide⟩ ⟨rfl, Nat.le_of_ble_eq_true rfl⟩ (fun x2 h3 => ?_)
  refine q_if_eq C dX8_power_9 (tgt := 24) (by decide) ?_ ?_
  · refine q_iconst C dX8_power_24 rfl ?_
    exact q_iret C Z1 Z2 dX8_power_25
  · refine q_aload_n C dX8_power_12 rfl ?_
    refine q_getR C dX8_power_13 fl8_19 rfl ?_
    refine q_bipush C dX8_power_16 (by decide) rfl ?_
    refine q_iload_n C dX8_power_18 rfl ?_
    refine q_iadd C dX8_power_19 ?_
    refine q_iald C dX8_power_20 ⟨by decide, by decide, rfl⟩ ?_
    refine q_goto C dX8_power_21 (tgt := 25) (by decide) ?_
    exact q_iret C Z1 Z2 dX8_power_25
def q_X8_errorPlaceOf (h : zH) (a_0 : Nat) (x_1 : Int) (x_2 : Int) : Option Int := zgz 64 (some (zw (zw (20 + zw (64 * x_1)) + x_2.tmod 64)))
theorem cq_X8_errorPlaceOf (w : zW) (l : Launch) (h : zH) (a_0 : Nat) (x_1 : Int) (x_2 : Int) : zCp w l yX8_errorPlaceOf cX8_errorPlaceOf 3 (some .int) 0 0 [.inr (8, a_0), .inl x_1, .inl x_2] h qI (q_X8_errorPlaceOf h a_0 x_1 x_2) := by
  refine zCp.of (own := RX8) (loc := [some (.inr (8, a_0)), some (.inl x_1), some (.inl x_2)]) (by decide) rfl (Nat.le_of_ble_eq_true rfl) (fun k v hk => ?_) ?_
  · exact zloc_ok 0 rfl hk
  intro p e s m args below meth c C Z1 Z2
  unfold q_X8_errorPlaceOf
  refine p_bipush C dX8_errorPlaceOf_0 (by decide) rfl ?_
  refine p_bipush C dX8_errorPlaceOf_2 (by decide) rfl ?_
  refine p_iload_n C dX8_errorPlaceOf_4 rfl ?_
  refine p_imul C dX8_errorPlaceOf_5 ?_
  refine p_iadd C dX8_errorPlaceOf_6 ?_
  refine p_iload_n C dX8_errorPlaceOf_7 rfl ?_
  refine p_bipush C dX8_errorPlaceOf_8 (by decide) rfl ?_
  refine p_irem C dX8_errorPlaceOf_10 ?_
  refine p_iadd C dX8_errorPlaceOf_11 ?_
  exact p_iret C Z1 Z2 dX8_errorPlaceOf_12
def q_X8_timingError (h : zH) (a_0 : Nat) (x_1 : Int) : Option (Int × zH) := zbp (q_X8_isStation h a_0 x_1) (fun x1 => zbd (q_X8_checks h a_0 x1) (fun x2 h3 => if x2 = 0 then (some (0, h3)) else (zbp (q_X8_errorPlaceOf h3 a_0 x_1 (h3.1 (h3.2 a_0 5) 0)) (fun x4 => zgi 597 x4 (some (h3.1 (h3.2 a_0 5) x4.toNat, h3))))))
theorem cq_X8_timingError (w : zW) (l : Launch) (h : zH) (a_0 : Nat) (x_1 : Int) : zCq w l yX8_timingError cX8_timingError 2 (some .int) 1 22 [.inr (8, a_0), .inl x_1] h qI (q_X8_timingError h a_0 x_1) := by
  refine zCq.of (own := RX8) (loc := [some (.inr (8, a_0)), some (.inl x_1)]) (by decide) rfl (Nat.le_of_ble_eq_true rfl) (fun k v hk => ?_) ?_
  · exact zloc_ok 0 rfl hk
  intro p e s m args below meth c C Z1 Z2
  unfold q_X8_timingError
  refine q_aload_n C dX8_timingError_0 rfl ?_
  refine q_aload_n C dX8_timingError_1 rfl ?_
  refine q_iload_n C dX8_timingError_2 rfl ?_
  refine q_pcallVI C dX8_timingError_3 mv8_178 (cq_X8_isStation w l h _ _) rfl ⟨by decide, by decide⟩ ⟨rfl, Nat.le_of_ble_eq_true rfl⟩ (fun x1 => ?_)
  refine q_callVI C dX8_timingError_6 mv8_181 (cq_X8_checks w l h _ _) rfl ⟨by decide, by decide⟩ ⟨rfl, Nat.le_of_ble_eq_true rfl⟩ (fun x2 h3 => ?_)
  refine q_if_eq C dX8_timingError_9 (tgt := 31) (by decide) ?_ ?_
  · refine q_iconst C dX8_timingError_31 rfl ?_
    exact q_iret C Z1 Z2 dX8_timingError_32
  · refine q_aload_n C dX8_timingError_12 rfl ?_
    refine q_getR C dX8_timingError_13 fl8_19 rfl ?_
    refine q_aload_n C dX8_timingError_16 rfl ?_
    refine q_iload_n C dX8_timingError_17 rfl ?_
    refine q_aload_n C dX8_timingError_18 rfl ?_
    refine q_getR C dX8_timingError_19 fl8_19 rfl ?_
    refine q_iconst C dX8_timingError_22 rfl ?_
    refine q_ialdN (j := 0) C dX8_timingError_23 ⟨by decide, by decide, rfl⟩ rfl (by decide) ?_
    refine q_pcallVI C dX8_timingError_24 mv8_191 (cq_X8_errorPlaceOf w l h3 _ _ _) rfl ⟨by decide, by decide⟩ ⟨rfl, Nat.le_of_ble_eq_true rfl⟩ (fun x4 => ?_)
    refine q_iald C dX8_timingError_27 ⟨by decide, by decide, rfl⟩ ?_
    refine q_goto C dX8_timingError_28 (tgt := 32) (by decide) ?_
    exact q_iret C Z1 Z2 dX8_timingError_32
def q_X8_tripOf (h : zH) (a_0 : Nat) (x_1 : Int) : Option Int := zlet (h.1 (h.2 a_0 5) 1) (fun x1 => zgi 65 (zw (6 + x_1)) (zgz x1 (some (zw ((zw (zw (zw (2 * h.1 (h.2 a_0 3) (zw (6 + x_1)).toNat) + x1) - 1)).tdiv x1)))))
theorem cq_X8_tripOf (w : zW) (l : Launch) (h : zH) (a_0 : Nat) (x_1 : Int) : zCp w l yX8_tripOf cX8_tripOf 3 (some .int) 0 0 [.inr (8, a_0), .inl x_1] h qI (q_X8_tripOf h a_0 x_1) := by
  refine zCp.of (own := RX8) (loc := [some (.inr (8, a_0)), some (.inl x_1), none]) (by decide) rfl (Nat.le_of_ble_eq_true rfl) (fun k v hk => ?_) ?_
  · exact zloc_ok 1 rfl hk
  intro p e s m args below meth c C Z1 Z2
  unfold q_X8_tripOf
  refine p_aload_n C dX8_tripOf_0 rfl ?_
  refine p_getR C dX8_tripOf_1 fl8_19 rfl ?_
  refine p_iconst C dX8_tripOf_4 rfl ?_
  refine p_ialdN (j := 1) C dX8_tripOf_5 ⟨by decide, by decide, rfl⟩ rfl (by decide) ?_
  refine p_istore_nL C dX8_tripOf_6 (by decide) (fun x1 => ?_)
  refine p_iconst C dX8_tripOf_7 rfl ?_
  refine p_aload_n C dX8_tripOf_8 rfl ?_
  refine p_getR C dX8_tripOf_9 fl8_13 rfl ?_
  refine p_bipush C dX8_tripOf_12 (by decide) rfl ?_
  refine p_iload_n C dX8_tripOf_14 rfl ?_
  refine p_iadd C dX8_tripOf_15 ?_
  refine p_iald C dX8_tripOf_16 ⟨by decide, by decide, rfl⟩ ?_
  refine p_imul C dX8_tripOf_17 ?_
  refine p_iload_n C dX8_tripOf_18 rfl ?_
  refine p_iadd C dX8_tripOf_19 ?_
  refine p_iconst C dX8_tripOf_20 rfl ?_
  refine p_isub C dX8_tripOf_21 ?_
  refine p_iload_n C dX8_tripOf_22 rfl ?_
  refine p_idiv C dX8_tripOf_23 ?_
  exact p_iret C Z1 Z2 dX8_tripOf_24
def q_X8_roundTrip (h : zH) (a_0 : Nat) (x_1 : Int) : Option (Int × zH) := zbp (q_X8_isStation h a_0 x_1) (fun x1 => zbd (q_X8_checks h a_0 x1) (fun x2 h3 => if x2 = 0 then (some (0, h3)) else (zbp (q_X8_tripOf h3 a_0 x_1) (fun x4 => some (x4, h3)))))
theorem cq_X8_roundTrip (w : zW) (l : Launch) (h : zH) (a_0 : Nat) (x_1 : Int) : zCq w l yX8_roundTrip cX8_roundTrip 2 (some .int) 1 22 [.inr (8, a_0), .inl x_1] h qI (q_X8_roundTrip h a_0 x_1) := by
  refine zCq.of (own := RX8) (loc := [some (.inr (8, a_0)), some (.inl x_1)]) (by decide) rfl (Nat.le_of_ble_eq_true rfl) (fun k v hk => ?_) ?_
  · exact zloc_ok 0 rfl hk
  intro p e s m args below meth c C Z1 Z2
  unfold q_X8_roundTrip
  refine q_aload_n C dX8_roundTrip_0 rfl ?_
  refine q_aload_n C dX8_roundTrip_1 rfl ?_
  refine q_iload_n C dX8_roundTrip_2 rfl ?_
  refine q_pcallVI C dX8_roundTrip_3 mv8_178 (cq_X8_isStation w l h _ _) rfl ⟨by decide, by decide⟩ ⟨rfl, Nat.le_of_ble_eq_true rfl⟩ (fun x1 => ?_)
  refine q_callVI C dX8_roundTrip_6 mv8_181 (cq_X8_checks w l h _ _) rfl ⟨by decide, by decide⟩ ⟨rfl, Nat.le_of_ble_eq_true rfl⟩ (fun x2 h3 => ?_)
  refine q_if_eq C dX8_roundTrip_9 (tgt := 20) (by decide) ?_ ?_
  · refine q_iconst C dX8_roundTrip_20 rfl ?_
    exact q_iret C Z1 Z2 dX8_roundTrip_21
  · refine q_aload_n C dX8_roundTrip_12 rfl ?_
    refine q_iload_n C dX8_roundTrip_13 rfl ?_
    refine q_pcallVI C dX8_roundTrip_14 mv8_194 (cq_X8_tripOf w l h3 _ _) rfl ⟨by decide, by decide⟩ ⟨rfl, Nat.le_of_ble_eq_true rfl⟩ (fun x4 => ?_)
    refine q_goto C dX8_roundTrip_17 (tgt := 21) (by decide) ?_
    exact q_iret C Z1 Z2 dX8_roundTrip_21
def q_X8_timingFaults (h : zH) (a_0 : Nat) (x_1 : Int) : Option (Int × zH) := zbp (q_X8_isStation h a_0 x_1) (fun x1 => zbd (q_X8_checks h a_0 x1) (fun x2 h3 => if x2 = 0 then (some (0, h3)) else (zgi 597 (zw (14 + x_1)) (some (h3.1 (h3.2 a_0 5) (zw (14 + x_1)).toNat, h3)))))
theorem cq_X8_timingFaults (w : zW) (l : Launch) (h : zH) (a_0 : Nat) (x_1 : Int) : zCq w l yX8_timingFaults cX8_timingFaults 2 (some .int) 1 21 [.inr (8, a_0), .inl x_1] h qI (q_X8_timingFaults h a_0 x_1) := by
  refine zCq.of (own := RX8) (loc := [some (.inr (8, a_0)), some (.inl x_1)]) (by decide) rfl (Nat.le_of_ble_eq_true rfl) (fun k v hk => ?_) ?_
  · exact zloc_ok 0 rfl hk
  intro p e s m args below meth c C Z1 Z2
  unfold q_X8_timingFaults
  refine q_aload_n C dX8_timingFaults_0 rfl ?_
  refine q_aload_n C dX8_timingFaults_1 rfl ?_
  refine q_iload_n C dX8_timingFaults_2 rfl ?_
  refine q_pcallVI C dX8_timingFaults_3 mv8_178 (cq_X8_isStation w l h _ _) rfl ⟨by decide, by decide⟩ ⟨rfl, Nat.le_of_ble_eq_true rfl⟩ (fun x1 => ?_)
  refine q_callVI C dX8_timingFaults_6 mv8_181 (cq_X8_checks w l h _ _) rfl ⟨by decide, by decide⟩ ⟨rfl, Nat.le_of_ble_eq_true rfl⟩ (fun x2 h3 => ?_)
  refine q_if_eq C dX8_timingFaults_9 (tgt := 24) (by decide) ?_ ?_
  · refine q_iconst C dX8_timingFaults_24 rfl ?_
    exact q_iret C Z1 Z2 dX8_timingFaults_25
  · refine q_aload_n C dX8_timingFaults_12 rfl ?_
    refine q_getR C dX8_timingFaults_13 fl8_19 rfl ?_
    refine q_bipush C dX8_timingFaults_16 (by decide) rfl ?_
    refine q_iload_n C dX8_timingFaults_18 rfl ?_
    refine q_iadd C dX8_timingFaults_19 ?_
    refine q_iald C dX8_timingFaults_20 ⟨by decide, by decide, rfl⟩ ?_
    refine q_goto C dX8_timingFaults_21 (tgt := 25) (by decide) ?_
    exact q_iret C Z1 Z2 dX8_timingFaults_25
def q_X8_stateOf (h : zH) (a_0 : Nat) (x_1 : Int) : Option (Int × zH) := zbp (q_X8_isCall h a_0 x_1) (fun x1 => zbd (q_X8_checks h a_0 x1) (fun x2 h3 => if x2 = 0 then (some (0, h3)) else (zbp (q_X8_of h3 a_0 x_1 5) (fun x4 => some (x4, h3)))))
theorem cq_X8_stateOf (w : zW) (l : Launch) (h : zH) (a_0 : Nat) (x_1 : Int) : zCq w l yX8_stateOf cX8_stateOf 2 (some .int) 1 22 [.inr (8, a_0), .inl x_1] h qI (q_X8_stateOf h a_0 x_1) := by
  refine zCq.of (own := RX8) (loc := [some (.inr (8, a_0)), some (.inl x_1)]) (by decide) rfl (Nat.le_of_ble_eq_true rfl) (fun k v hk => ?_) ?_
  · exact zloc_ok 0 rfl hk
  intro p e s m args below meth c C Z1 Z2
  unfold q_X8_stateOf
  refine q_aload_n C dX8_stateOf_0 rfl ?_
  refine q_aload_n C dX8_stateOf_1 rfl ?_
  refine q_iload_n C dX8_stateOf_2 rfl ?_
  refine q_pcallVI C dX8_stateOf_3 mv8_197 (cq_X8_isCall w l h _ _) rfl ⟨by decide, by decide⟩ ⟨rfl, Nat.le_of_ble_eq_true rfl⟩ (fun x1 => ?_)
  refine q_callVI C dX8_stateOf_6 mv8_181 (cq_X8_checks w l h _ _) rfl ⟨by decide, by decide⟩ ⟨rfl, Nat.le_of_ble_eq_true rfl⟩ (fun x2 h3 => ?_)
  refine q_if_eq C dX8_stateOf_9 (tgt := 21) (by decide) ?_ ?_
  · refine q_iconst C dX8_stateOf_21 rfl ?_
    exact q_iret C Z1 Z2 dX8_stateOf_22
  · refine q_aload_n C dX8_stateOf_12 rfl ?_
    refine q_iload_n C dX8_stateOf_13 rfl ?_
    refine q_iconst C dX8_stateOf_14 rfl ?_
    refine q_pcallVI C dX8_stateOf_15 mv8_200 (cq_X8_of w l h3 _ _ _) rfl ⟨by decide, by decide⟩ ⟨rfl, Nat.le_of_ble_eq_true rfl⟩ (fun x4 => ?_)
    refine q_goto C dX8_stateOf_18 (tgt := 22) (by decide) ?_
    exact q_iret C Z1 Z2 dX8_stateOf_22
def q_X8_senderOf (h : zH) (a_0 : Nat) (x_1 : Int) : Option (Int × zH) := zbp (q_X8_isCall h a_0 x_1) (fun x1 => zbd (q_X8_checks h a_0 x1) (fun x2 h3 => if x2 = 0 then (some (0, h3)) else (zbp (q_X8_of h3 a_0 x_1 0) (fun x4 => some (x4, h3)))))
theorem cq_X8_senderOf (w : zW) (l : Launch) (h : zH) (a_0 : Nat) (x_1 : Int) : zCq w l yX8_senderOf cX8_senderOf 2 (some .int) 1 22 [.inr (8, a_0), .inl x_1] h qI (q_X8_senderOf h a_0 x_1) := by
  refine zCq.of (own := RX8) (loc := [some (.inr (8, a_0)), some (.inl x_1)]) (by decide) rfl (Nat.le_of_ble_eq_true rfl) (fun k v hk => ?_) ?_
  · exact zloc_ok 0 rfl hk
  intro p e s m args below meth c C Z1 Z2
  unfold q_X8_senderOf
  refine q_aload_n C dX8_senderOf_0 rfl ?_
  refine q_aload_n C dX8_senderOf_1 rfl ?_
  refine q_iload_n C dX8_senderOf_2 rfl ?_
  refine q_pcallVI C dX8_senderOf_3 mv8_197 (cq_X8_isCall w l h _ _) rfl ⟨by decide, by decide⟩ ⟨rfl, Nat.le_of_ble_eq_true rfl⟩ (fun x1 => ?_)
  refine q_callVI C dX8_senderOf_6 mv8_181 (cq_X8_checks w l h _ _) rfl ⟨by decide, by decide⟩ ⟨rfl, Nat.le_of_ble_eq_true rfl⟩ (fun x2 h3 => ?_)
  refine q_if_eq C dX8_senderOf_9 (tgt := 21) (by decide) ?_ ?_
  · refine q_iconst C dX8_senderOf_21 rfl ?_
    exact q_iret C Z1 Z2 dX8_senderOf_22
  · refine q_aload_n C dX8_senderOf_12 rfl ?_
    refine q_iload_n C dX8_senderOf_13 rfl ?_
    refine q_iconst C dX8_senderOf_14 rfl ?_
    refine q_pcallVI C dX8_senderOf_15 mv8_200 (cq_X8_of w l h3 _ _ _) rfl ⟨by decide, by decide⟩ ⟨rfl, Nat.le_of_ble_eq_true rfl⟩ (fun x4 => ?_)
    refine q_goto C dX8_senderOf_18 (tgt := 22) (by decide) ?_
    exact q_iret C Z1 Z2 dX8_senderOf_22
def q_X8_receiverOf (h : zH) (a_0 : Nat) (x_1 : Int) : Option (Int × zH) := zbp (q_X8_isCall h a_0 x_1) (fun x1 => zbd (q_X8_checks h a_0 x1) (fun x2 h3 => if x2 = 0 then (some (0, h3)) else (zbp (q_X8_of h3 a_0 x_1 1) (fun x4 => some (x4, h3)))))
theorem cq_X8_receiverOf (w : zW) (l : Launch) (h : zH) (a_0 : Nat) (x_1 : Int) : zCq w l yX8_receiverOf cX8_receiverOf 2 (some .int) 1 22 [.inr (8, a_0), .inl x_1] h qI (q_X8_receiverOf h a_0 x_1) := by
  refine zCq.of (own := RX8) (loc := [some (.inr (8, a_0)), some (.inl x_1)]) (by decide) rfl (Nat.le_of_ble_eq_true rfl) (fun k v hk => ?_) ?_
  · exact zloc_ok 0 rfl hk
  intro p e s m args below meth c C Z1 Z2
  unfold q_X8_receiverOf
  refine q_aload_n C dX8_receiverOf_0 rfl ?_
  refine q_aload_n C dX8_receiverOf_1 rfl ?_
  refine q_iload_n C dX8_receiverOf_2 rfl ?_
  refine q_pcallVI C dX8_receiverOf_3 mv8_197 (cq_X8_isCall w l h _ _) rfl ⟨by decide, by decide⟩ ⟨rfl, Nat.le_of_ble_eq_true rfl⟩ (fun x1 => ?_)
  refine q_callVI C dX8_receiverOf_6 mv8_181 (cq_X8_checks w l h _ _) rfl ⟨by decide, by decide⟩ ⟨rfl, Nat.le_of_ble_eq_true rfl⟩ (fun x2 h3 => ?_)
  refine q_if_eq C dX8_receiverOf_9 (tgt := 21) (by decide) ?_ ?_
  · refine q_iconst C dX8_receiverOf_21 rfl ?_
    exact q_iret C Z1 Z2 dX8_receiverOf_22
  · refine q_aload_n C dX8_receiverOf_12 rfl ?_
    refine q_iload_n C dX8_receiverOf_13 rfl ?_
    refine q_iconst C dX8_receiverOf_14 rfl ?_
    refine q_pcallVI C dX8_receiverOf_15 mv8_200 (cq_X8_of w l h3 _ _ _) rfl ⟨by decide, by decide⟩ ⟨rfl, Nat.le_of_ble_eq_true rfl⟩ (fun x4 => ?_)
    refine q_goto C dX8_receiverOf_18 (tgt := 22) (by decide) ?_
    exact q_iret C Z1 Z2 dX8_receiverOf_22
def q_X8_ofActive (h : zH) (a_0 : Nat) (x_1 : Int) (x_2 : Int) : Option (Int × zH) := zbp (q_X8_isCall h a_0 x_1) (fun x1 => zbd (q_X8_checks h a_0 x1) (fun x2 h3 => if x2 = 0 then (some (0, h3)) else (zbp (q_X8_isActive h3 a_0 x_1) (fun x4 => if x4 = 0 then (some ((-1), h3)) else (zbp (q_X8_of h3 a_0 x_1 x_2) (fun x5 => some (x5, h3)))))))
theorem cq_X8_ofActive (w : zW) (l : Launch) (h : zH) (a_0 : Nat) (x_1 : Int) (x_2 : Int) : zCq w l yX8_ofActive cX8_ofActive 3 (some .int) 2 43 [.inr (8, a_0), .inl x_1, .inl x_2] h qI (q_X8_ofActive h a_0 x_1 x_2) := by
  refine zCq.of (own := RX8) (loc := [some (.inr (8, a_0)), some (.inl x_1), some (.inl x_2)]) (by decide) rfl (Nat.le_of_ble_eq_true rfl) (fun k v hk => ?_) ?_
  · exact zloc_ok 0 rfl hk
  intro p e s m args below meth c C Z1 Z2
  unfold q_X8_ofActive
  refine q_aload_n C dX8_ofActive_0 rfl ?_
  refine q_aload_n C dX8_ofActive_1 rfl ?_
  refine q_iload_n C dX8_ofActive_2 rfl ?_
  refine q_pcallVI C dX8_ofActive_3 mv8_197 (cq_X8_isCall w l h _ _) rfl ⟨by decide, by decide⟩ ⟨rfl, Nat.le_of_ble_eq_true rfl⟩ (fun x1 => ?_)
  refine q_callVI C dX8_ofActive_6 mv8_181 (cq_X8_checks w l h _ _) rfl ⟨by decide, by decide⟩ ⟨rfl, Nat.le_of_ble_eq_true rfl⟩ (fun x2 h3 => ?_)
  refine q_if_ne C dX8_ofActive_9 (tgt := 14) (by decide) ?_ ?_
  · refine q_aload_n C dX8_ofActive_14 rfl ?_
    refine q_iload_n C dX8_ofActive_15 rfl ?_
    refine q_pcallVI C dX8_ofActive_16 mv8_203 (cq_X8_isActive w l h3 _ _) rfl ⟨by decide, by decide⟩ ⟨rfl, Nat.le_of_ble_eq_true rfl⟩ (fun x4 => ?_)
    refine q_if_eq C dX8_ofActive_19 (tgt := 31) (by decide) ?_ ?_
    · refine q_iconst C dX8_ofActive_31 rfl ?_
      exact q_iret C Z1 Z2 dX8_ofActive_32
    · refine q_aload_n C dX8_ofActive_22 rfl ?_
      refine q_iload_n C dX8_ofActive_23 rfl ?_
      refine q_iload_n C dX8_ofActive_24 rfl ?_
      refine q_pcallVI C dX8_ofActive_25 mv8_200 (cq_X8_of w l h3 _ _ _) rfl ⟨by decide, by decide⟩ ⟨rfl, Nat.le_of_ble_eq_true rfl⟩ (fun x5 => ?_)
      refine q_goto C dX8_ofActive_28 (tgt := 32) (by decide) ?_
      exact q_iret C Z1 Z2 dX8_ofActive_32
  · refine q_iconst C dX8_ofActive_12 rfl ?_
    exact q_iret C Z1 Z2 dX8_ofActive_13
def q_X8_carrierOf (h : zH) (a_0 : Nat) (x_1 : Int) : Option (Int × zH) := zbd (q_X8_ofActive h a_0 x_1 6) (fun x1 h2 => some (x1, h2))
theorem cq_X8_carrierOf (w : zW) (l : Launch) (h : zH) (a_0 : Nat) (x_1 : Int) : zCq w l yX8_carrierOf cX8_carrierOf 2 (some .int) 3 65 [.inr (8, a_0), .inl x_1] h qI (q_X8_carrierOf h a_0 x_1) := by
  refine zCq.of (own := RX8) (loc := [some (.inr (8, a_0)), some (.inl x_1)]) (by decide) rfl (Nat.le_of_ble_eq_true rfl) (fun k v hk => ?_) ?_
  · exact zloc_ok 0 rfl hk
  intro p e s m args below meth c C Z1 Z2
  unfold q_X8_carrierOf
  refine q_aload_n C dX8_carrierOf_0 rfl ?_
  refine q_iload_n C dX8_carrierOf_1 rfl ?_
  refine q_bipush C dX8_carrierOf_2 (by decide) rfl ?_
  refine q_callVI C dX8_carrierOf_4 mv8_206 (cq_X8_ofActive w l h _ _ _) rfl ⟨by decide, by decide⟩ ⟨rfl, Nat.le_of_ble_eq_true rfl⟩ (fun x1 h2 => ?_)
  exact q_iret C Z1 Z2 dX8_carrierOf_7
def q_X8_startOf (h : zH) (a_0 : Nat) (x_1 : Int) : Option (Int × zH) := zbd (q_X8_ofActive h a_0 x_1 7) (fun x1 h2 => some (x1, h2))
theorem cq_X8_startOf (w : zW) (l : Launch) (h : zH) (a_0 : Nat) (x_1 : Int) : zCq w l yX8_startOf cX8_startOf 2 (some .int) 3 65 [.inr (8, a_0), .inl x_1] h qI (q_X8_startOf h a_0 x_1) := by
  refine zCq.of (own := RX8) (loc := [some (.inr (8, a_0)), some (.inl x_1)]) (by decide) rfl (Nat.le_of_ble_eq_true rfl) (fun k v hk => ?_) ?_
  · exact zloc_ok 0 rfl hk
  intro p e s m args below meth c C Z1 Z2
  unfold q_X8_startOf
  refine q_aload_n C dX8_startOf_0 rfl ?_
  refine q_iload_n C dX8_startOf_1 rfl ?_
  refine q_bipush C dX8_startOf_2 (by decide) rfl ?_
  refine q_callVI C dX8_startOf_4 mv8_206 (cq_X8_ofActive w l h _ _ _) rfl ⟨by decide, by decide⟩ ⟨rfl, Nat.le_of_ble_eq_true rfl⟩ (fun x1 h2 => ?_)
  exact q_iret C Z1 Z2 dX8_startOf_7
def q_X8_endOf (h : zH) (a_0 : Nat) (x_1 : Int) : Option (Int × zH) := zbd (q_X8_ofActive h a_0 x_1 8) (fun x1 h2 => some (x1, h2))
theorem cq_X8_endOf (w : zW) (l : Launch) (h : zH) (a_0 : Nat) (x_1 : Int) : zCq w l yX8_endOf cX8_endOf 2 (some .int) 3 65 [.inr (8, a_0), .inl x_1] h qI (q_X8_endOf h a_0 x_1) := by
  refine zCq.of (own := RX8) (loc := [some (.inr (8, a_0)), some (.inl x_1)]) (by decide) rfl (Nat.le_of_ble_eq_true rfl) (fun k v hk => ?_) ?_
  · exact zloc_ok 0 rfl hk
  intro p e s m args below meth c C Z1 Z2
  unfold q_X8_endOf
  refine q_aload_n C dX8_endOf_0 rfl ?_
  refine q_iload_n C dX8_endOf_1 rfl ?_
  refine q_bipush C dX8_endOf_2 (by decide) rfl ?_
  refine q_callVI C dX8_endOf_4 mv8_206 (cq_X8_ofActive w l h _ _ _) rfl ⟨by decide, by decide⟩ ⟨rfl, Nat.le_of_ble_eq_true rfl⟩ (fun x1 h2 => ?_)
  exact q_iret C Z1 Z2 dX8_endOf_7
def q_X8_burstOf (h : zH) (a_0 : Nat) (x_1 : Int) : Option (Int × zH) := zbp (q_X8_isCall h a_0 x_1) (fun x1 => zbd (q_X8_checks h a_0 x1) (fun x2 h3 => if x2 = 0 then (some (0, h3)) else (zbp (q_X8_burst h3 a_0 x_1) (fun x4 => some (x4, h3)))))
theorem cq_X8_burstOf (w : zW) (l : Launch) (h : zH) (a_0 : Nat) (x_1 : Int) : zCq w l yX8_burstOf cX8_burstOf 2 (some .int) 2 43 [.inr (8, a_0), .inl x_1] h qI (q_X8_burstOf h a_0 x_1) := by
  refine zCq.of (own := RX8) (loc := [some (.inr (8, a_0)), some (.inl x_1)]) (by decide) rfl (Nat.le_of_ble_eq_true rfl) (fun k v hk => ?_) ?_
  · exact zloc_ok 0 rfl hk
  intro p e s m args below meth c C Z1 Z2
  unfold q_X8_burstOf
  refine q_aload_n C dX8_burstOf_0 rfl ?_
  refine q_aload_n C dX8_burstOf_1 rfl ?_
  refine q_iload_n C dX8_burstOf_2 rfl ?_
  refine q_pcallVI C dX8_burstOf_3 mv8_197 (cq_X8_isCall w l h _ _) rfl ⟨by decide, by decide⟩ ⟨rfl, Nat.le_of_ble_eq_true rfl⟩ (fun x1 => ?_)
  refine q_callVI C dX8_burstOf_6 mv8_181 (cq_X8_checks w l h _ _) rfl ⟨by decide, by decide⟩ ⟨rfl, Nat.le_of_ble_eq_true rfl⟩ (fun x2 h3 => ?_)
  refine q_if_eq C dX8_burstOf_9 (tgt := 20) (by decide) ?_ ?_
  · refine q_iconst C dX8_burstOf_20 rfl ?_
    exact q_iret C Z1 Z2 dX8_burstOf_21
  · refine q_aload_n C dX8_burstOf_12 rfl ?_
    refine q_iload_n C dX8_burstOf_13 rfl ?_
    refine q_pcallVI C dX8_burstOf_14 mv8_209 (cq_X8_burst w l h3 _ _) rfl ⟨by decide, by decide⟩ ⟨rfl, Nat.le_of_ble_eq_true rfl⟩ (fun x4 => ?_)
    refine q_goto C dX8_burstOf_17 (tgt := 21) (by decide) ?_
    exact q_iret C Z1 Z2 dX8_burstOf_21
def q_X8_sendOffset (h : zH) (a_0 : Nat) (x_1 : Int) : Option (Int × zH) := zbd (q_X8_ofActive h a_0 x_1 7) (fun x1 h2 => if h2.1 a_0 0 = 0 then (if x1 = (-1) then (some (x1, h2)) else (zlet (h2.1 (h2.2 a_0 5) 1) (fun x3 => zbp (q_X8_of h2 a_0 x_1 0) (fun x4 => zgi 65 (zw (6 + x4)) (zgz x3 (zlet ((zw (x1 - h2.1 (h2.2 a_0 3) (zw (6 + x4)).toNat)).tmod x3) (fun x5 => if 0 ≤ x5 then (some (x5, h2)) else (some (zw (x5 + x3), h2))))))))) else (some (x1, h2)))
theorem cq_X8_sendOffset (w : zW) (l : Launch) (h : zH) (a_0 : Nat) (x_1 : Int) : zCq w l yX8_sendOffset cX8_sendOffset 5 (some .int) 3 65 [.inr (8, a_0), .inl x_1] h qI (q_X8_sendOffset h a_0 x_1) := by
  refine zCq.of (own := RX8) (loc := [some (.inr (8, a_0)), some (.inl x_1), none, none, none]) (by decide) rfl (Nat.le_of_ble_eq_true rfl) (fun k v hk => ?_) ?_
  · exact zloc_ok 3 rfl hk
  intro p e s m args below meth c C Z1 Z2
  unfold q_X8_sendOffset
  refine q_aload_n C dX8_sendOffset_0 rfl ?_
  refine q_iload_n C dX8_sendOffset_1 rfl ?_
  refine q_bipush C dX8_sendOffset_2 (by decide) rfl ?_
  refine q_callVI C dX8_sendOffset_4 mv8_206 (cq_X8_ofActive w l h _ _ _) rfl ⟨by decide, by decide⟩ ⟨rfl, Nat.le_of_ble_eq_true rfl⟩ (fun x1 h2 => ?_)
  refine q_istore_n C dX8_sendOffset_7 (by decide) ?_
  refine q_aload_n C dX8_sendOffset_8 rfl ?_
  refine q_getI C dX8_sendOffset_9 fl8_47 rfl ?_
  refine q_if_ne C dX8_sendOffset_12 (tgt := 20) (by decide) ?_ ?_
  · refine q_iload_n C dX8_sendOffset_20 rfl ?_
    exact q_iret C Z1 Z2 dX8_sendOffset_21
  · refine q_iload_n C dX8_sendOffset_15 rfl ?_
    refine q_iconst C dX8_sendOffset_16 rfl ?_
    refine q_icmp_ne C dX8_sendOffset_17 (tgt := 22) (by decide) ?_ ?_
    · refine q_aload_n C dX8_sendOffset_22 rfl ?_
      refine q_getR C dX8_sendOffset_23 fl8_19 rfl ?_
      refine q_iconst C dX8_sendOffset_26 rfl ?_
      refine q_ialdN (j := 1) C dX8_sendOffset_27 ⟨by decide, by decide, rfl⟩ rfl (by decide) ?_
      refine q_istore_nL C dX8_sendOffset_28 (by decide) (fun x3 => ?_)
      refine q_iload_n C dX8_sendOffset_29 rfl ?_
      refine q_aload_n C dX8_sendOffset_30 rfl ?_
      refine q_getR C dX8_sendOffset_31 fl8_13 rfl ?_
      refine q_bipush C dX8_sendOffset_34 (by decide) rfl ?_
      refine q_aload_n C dX8_sendOffset_36 rfl ?_
      refine q_iload_n C dX8_sendOffset_37 rfl ?_
      refine q_iconst C dX8_sendOffset_38 rfl ?_
      refine q_pcallVI C dX8_sendOffset_39 mv8_200 (cq_X8_of w l h2 _ _ _) rfl ⟨by decide, by decide⟩ ⟨rfl, Nat.le_of_ble_eq_true rfl⟩ (fun x4 => ?_)
      refine q_iadd C dX8_sendOffset_42 ?_
      refine q_iald C dX8_sendOffset_43 ⟨by decide, by decide, rfl⟩ ?_
      refine q_isub C dX8_sendOffset_44 ?_
      refine q_iload_n C dX8_sendOffset_45 rfl ?_
      refine q_irem C dX8_sendOffset_46 ?_
      refine q_istoreL C dX8_sendOffset_47 (by decide) (fun x5 => ?_)
      refine q_iload C dX8_sendOffset_49 rfl ?_
      refine q_if_ge C dX8_sendOffset_51 (tgt := 61) (by decide) ?_ ?_
      · refine q_iload C dX8_sendOffset_61 rfl ?_
        exact q_iret C Z1 Z2 dX8_sendOffset_63
      · refine q_iload C dX8_sendOffset_54 rfl ?_
        refine q_iload_n C dX8_sendOffset_56 rfl ?_
        refine q_iadd C dX8_sendOffset_57 ?_
        refine q_goto C dX8_sendOffset_58 (tgt := 63) (by decide) ?_
        exact q_iret C Z1 Z2 dX8_sendOffset_63
    · refine q_iload_n C dX8_sendOffset_20 rfl ?_
      exact q_iret C Z1 Z2 dX8_sendOffset_21
def q_X8_waitOf (h : zH) (a_0 : Nat) (x_1 : Int) : Option (Int × zH) := zbp (q_X8_isCall h a_0 x_1) (fun x1 => zbd (q_X8_checks h a_0 x1) (fun x2 h3 => if x2 = 0 then (some (0, h3)) else (zbp (q_X8_of h3 a_0 x_1 10) (fun x4 => if x4 = (-1) then (zbp (q_X8_of h3 a_0 x_1 5) (fun x5 => if x5 = 0 then (zbp (q_X8_of h3 a_0 x_1 9) (fun x6 => some (zw (h3.1 (h3.2 a_0 5) 0 - x6), h3))) else (some ((-1), h3)))) else (zbp (q_X8_of h3 a_0 x_1 10) (fun x7 => zbp (q_X8_of h3 a_0 x_1 9) (fun x8 => some (zw (x7 - x8), h3))))))))
theorem cq_X8_waitOf (w : zW) (l : Launch) (h : zH) (a_0 : Nat) (x_1 : Int) : zCq w l yX8_waitOf cX8_waitOf 2 (some .int) 1 22 [.inr (8, a_0), .inl x_1] h qI (q_X8_waitOf h a_0 x_1) := by
  refine zCq.of (own := RX8) (loc := [some (.inr (8, a_0)), some (.inl x_1)]) (by decide) rfl (Nat.le_of_ble_eq_true rfl) (fun k v hk => ?_) ?_
  · exact zloc_ok 0 rfl hk
  intro p e s m args below meth c C Z1 Z2
  unfold q_X8_waitOf
  refine q_aload_n C dX8_waitOf_0 rfl ?_
  refine q_aload_n C dX8_waitOf_1 rfl ?_
  refine q_iload_n C dX8_waitOf_2 rfl ?_
  refine q_pcallVI C dX8_waitOf_3 mv8_197 (cq_X8_isCall w l h _ _) rfl ⟨by decide, by decide⟩ ⟨rfl, Nat.le_of_ble_eq_true rfl⟩ (fun x1 => ?_)
  refine q_callVI C dX8_waitOf_6 mv8_181 (cq_X8_checks w l h _ _) rfl ⟨by decide, by decide⟩ ⟨rfl, Nat.le_of_ble_eq_true rfl⟩ (fun x2 h3 => ?_)
  refine q_if_ne C dX8_waitOf_9 (tgt := 14) (by decide) ?_ ?_
  · refine q_aload_n C dX8_waitOf_14 rfl ?_
    refine q_iload_n C dX8_waitOf_15 rfl ?_
    refine q_bipush C dX8_waitOf_16 (by decide) rfl ?_
    refine q_pcallVI C dX8_waitOf_18 mv8_200 (cq_X8_of w l h3 _ _ _) rfl ⟨by decide, by decide⟩ ⟨rfl, Nat.le_of_ble_eq_true rfl⟩ (fun x4 => ?_)
    refine q_iconst C dX8_waitOf_21 rfl ?_
    refine q_icmp_eq C dX8_waitOf_22 (tgt := 41) (by decide) ?_ ?_
    · refine q_aload_n C dX8_waitOf_41 rfl ?_
      refine q_iload_n C dX8_waitOf_42 rfl ?_
      refine q_iconst C dX8_waitOf_43 rfl ?_
      refine q_pcallVI C dX8_waitOf_44 mv8_200 (cq_X8_of w l h3 _ _ _) rfl ⟨by decide, by decide⟩ ⟨rfl, Nat.le_of_ble_eq_true rfl⟩ (fun x5 => ?_)
      refine q_if_ne C dX8_waitOf_47 (tgt := 67) (by decide) ?_ ?_
      · refine q_iconst C dX8_waitOf_67 rfl ?_
        exact q_iret C Z1 Z2 dX8_waitOf_68
      · refine q_aload_n C dX8_waitOf_50 rfl ?_
        refine q_getR C dX8_waitOf_51 fl8_19 rfl ?_
        refine q_iconst C dX8_waitOf_54 rfl ?_
        refine q_ialdN (j := 0) C dX8_waitOf_55 ⟨by decide, by decide, rfl⟩ rfl (by decide) ?_
        refine q_aload_n C dX8_waitOf_56 rfl ?_
        refine q_iload_n C dX8_waitOf_57 rfl ?_
        refine q_bipush C dX8_waitOf_58 (by decide) rfl ?_
        refine q_pcallVI C dX8_waitOf_60 mv8_200 (cq_X8_of w l h3 _ _ _) rfl ⟨by decide, by decide⟩ ⟨rfl, Nat.le_of_ble_eq_true rfl⟩ (fun x6 => ?_)
        refine q_isub C dX8_waitOf_63 ?_
        refine q_goto C dX8_waitOf_64 (tgt := 68) (by decide) ?_
        exact q_iret C Z1 Z2 dX8_waitOf_68
    · refine q_aload_n C dX8_waitOf_25 rfl ?_
      refine q_iload_n C dX8_waitOf_26 rfl ?_
      refine q_bipush C dX8_waitOf_27 (by decide) rfl ?_
      refine q_pcallVI C dX8_waitOf_29 mv8_200 (cq_X8_of w l h3 _ _ _) rfl ⟨by decide, by decide⟩ ⟨rfl, Nat.le_of_ble_eq_true rfl⟩ (fun x7 => ?_)
      refine q_aload_n C dX8_waitOf_32 rfl ?_
      refine q_iload_n C dX8_waitOf_33 rfl ?_
      refine q_bipush C dX8_waitOf_34 (by decide) rfl ?_
      refine q_pcallVI C dX8_waitOf_36 mv8_200 (cq_X8_of w l h3 _ _ _) rfl ⟨by decide, by decide⟩ ⟨rfl, Nat.le_of_ble_eq_true rfl⟩ (fun x8 => ?_)
      refine q_isub C dX8_waitOf_39 ?_
      exact q_iret C Z1 Z2 dX8_waitOf_40
  · refine q_iconst C dX8_waitOf_12 rfl ?_
    exact q_iret C Z1 Z2 dX8_waitOf_13
def q_X8_margin (h : zH) (a_0 : Nat) (x_1 : Int) (x_2 : Int) (x_3 : Int) : Option Int := zbp (q_X8_of h a_0 x_1 0) (fun x1 => zbp (q_X8_fadeOf h a_0 x1 x_3) (fun x2 => zbp (q_X8_of h a_0 x_1 1) (fun x3 => zbp (q_X8_fadeOf h a_0 x3 x_3) (fun x4 => some (zw (zw (zw (x_2 - x2) - x4) - h.1 (h.2 a_0 5) 5))))))
theorem cq_X8_margin (w : zW) (l : Launch) (h : zH) (a_0 : Nat) (x_1 : Int) (x_2 : Int) (x_3 : Int) : zCp w l yX8_margin cX8_margin 4 (some .int) 1 25 [.inr (8, a_0), .inl x_1, .inl x_2, .inl x_3] h qI (q_X8_margin h a_0 x_1 x_2 x_3) := by
  refine zCp.of (own := RX8) (loc := [some (.inr (8, a_0)), some (.inl x_1), some (.inl x_2), some (.inl x_3)]) (by decide) rfl (Nat.le_of_ble_eq_true rfl) (fun k v hk => ?_) ?_
  · exact zloc_ok 0 rfl hk
  intro p e s m args below meth c C Z1 Z2
  unfold q_X8_margin
  refine p_iload_n C dX8_margin_0 rfl ?_
  refine p_aload_n C dX8_margin_1 rfl ?_
  refine p_aload_n C dX8_margin_2 rfl ?_
  refine p_iload_n C dX8_margin_3 rfl ?_
  refine p_iconst C dX8_margin_4 rfl ?_
  refine p_pcallVI C dX8_margin_5 mv8_200 (cq_X8_of w l h _ _ _) rfl ⟨by decide, by decide⟩ ⟨rfl, Nat.le_of_ble_eq_true rfl⟩ (fun x1 => ?_)
  refine p_iload_n C dX8_margin_8 rfl ?_
  refine p_pcallVI C dX8_margin_9 mv8_188 (cq_X8_fadeOf w l h _ _ _) rfl ⟨by decide, by decide⟩ ⟨rfl, Nat.le_of_ble_eq_true rfl⟩ (fun x2 => ?_)
  refine p_isub C dX8_margin_12 ?_
  refine p_aload_n C dX8_margin_13 rfl ?_
  refine p_aload_n C dX8_margin_14 rfl ?_
  refine p_iload_n C dX8_margin_15 rfl ?_
  refine p_iconst C dX8_margin_16 rfl ?_
  refine p_pcallVI C dX8_margin_17 mv8_200 (cq_X8_of w l h _ _ _) rfl ⟨by decide, by decide⟩ ⟨rfl, Nat.le_of_ble_eq_true rfl⟩ (fun x3 => ?_)
  refine p_iload_n C dX8_margin_20 rfl ?_
  refine p_pcallVI C dX8_margin_21 mv8_188 (cq_X8_fadeOf w l h _ _ _) rfl ⟨by decide, by decide⟩ ⟨rfl, Nat.le_of_ble_eq_true rfl⟩ (fun x4 => ?_)
  refine p_isub C dX8_margin_24 ?_
  refine p_aload_n C dX8_margin_25 rfl ?_
  refine p_getR C dX8_margin_26 fl8_19 rfl ?_
  refine p_iconst C dX8_margin_29 rfl ?_
  refine p_ialdN (j := 5) C dX8_margin_30 ⟨by decide, by decide, rfl⟩ rfl (by decide) ?_
  refine p_isub C dX8_margin_31 ?_
  exact p_iret C Z1 Z2 dX8_margin_32
def q_X8_marginNow (h : zH) (a_0 : Nat) (x_1 : Int) : Option Int := zbp (q_X8_of h a_0 x_1 0) (fun x1 => zgi 597 (zw (8 + x1)) (zbp (q_X8_margin h a_0 x_1 (h.1 (h.2 a_0 5) (zw (8 + x1)).toNat) (h.1 (h.2 a_0 5) 0)) (fun x2 => some x2)))
theorem cq_X8_marginNow (w : zW) (l : Launch) (h : zH) (a_0 : Nat) (x_1 : Int) : zCp w l yX8_marginNow cX8_marginNow 2 (some .int) 2 48 [.inr (8, a_0), .inl x_1] h qI (q_X8_marginNow h a_0 x_1) := by
  refine zCp.of (own := RX8) (loc := [some (.inr (8, a_0)), some (.inl x_1)]) (by decide) rfl (Nat.le_of_ble_eq_true rfl) (fun k v hk => ?_) ?_
  · exact zloc_ok 0 rfl hk
  intro p e s m args below meth c C Z1 Z2
  unfold q_X8_marginNow
  refine p_aload_n C dX8_marginNow_0 rfl ?_
  refine p_iload_n C dX8_marginNow_1 rfl ?_
  refine p_aload_n C dX8_marginNow_2 rfl ?_
  refine p_getR C dX8_marginNow_3 fl8_19 rfl ?_
  refine p_bipush C dX8_marginNow_6 (by decide) rfl ?_
  refine p_aload_n C dX8_marginNow_8 rfl ?_
  refine p_iload_n C dX8_marginNow_9 rfl ?_
  refine p_iconst C dX8_marginNow_10 rfl ?_
  refine p_pcallVI C dX8_marginNow_11 mv8_200 (cq_X8_of w l h _ _ _) rfl ⟨by decide, by decide⟩ ⟨rfl, Nat.le_of_ble_eq_true rfl⟩ (fun x1 => ?_)
  refine p_iadd C dX8_marginNow_14 ?_
  refine p_iald C dX8_marginNow_15 ⟨by decide, by decide, rfl⟩ ?_
  refine p_aload_n C dX8_marginNow_16 rfl ?_
  refine p_getR C dX8_marginNow_17 fl8_19 rfl ?_
  refine p_iconst C dX8_marginNow_20 rfl ?_
  refine p_ialdN (j := 0) C dX8_marginNow_21 ⟨by decide, by decide, rfl⟩ rfl (by decide) ?_
  refine p_pcallVI C dX8_marginNow_22 mv8_212 (cq_X8_margin w l h _ _ _ _) rfl ⟨by decide, by decide⟩ ⟨rfl, Nat.le_of_ble_eq_true rfl⟩ (fun x2 => ?_)
  exact p_iret C Z1 Z2 dX8_marginNow_25
def q_X8_marginOf (h : zH) (a_0 : Nat) (x_1 : Int) : Option (Int × zH) := zbp (q_X8_isCall h a_0 x_1) (fun x1 => zbd (q_X8_checks h a_0 x1) (fun x2 h3 => if x2 = 0 then (some (0, h3)) else (zbp (q_X8_marginNow h3 a_0 x_1) (fun x4 => some (x4, h3)))))
theorem cq_X8_marginOf (w : zW) (l : Launch) (h : zH) (a_0 : Nat) (x_1 : Int) : zCq w l yX8_marginOf cX8_marginOf 2 (some .int) 3 69 [.inr (8, a_0), .inl x_1] h qI (q_X8_marginOf h a_0 x_1) := by
  refine zCq.of (own := RX8) (loc := [some (.inr (8, a_0)), some (.inl x_1)]) (by decide) rfl (Nat.le_of_ble_eq_true rfl) (fun k v hk => ?_) ?_
  · exact zloc_ok 0 rfl hk
  intro p e s m args below meth c C Z1 Z2
  unfold q_X8_marginOf
  refine q_aload_n C dX8_marginOf_0 rfl ?_
  refine q_aload_n C dX8_marginOf_1 rfl ?_
  refine q_iload_n C dX8_marginOf_2 rfl ?_
  refine q_pcallVI C dX8_marginOf_3 mv8_197 (cq_X8_isCall w l h _ _) rfl ⟨by decide, by decide⟩ ⟨rfl, Nat.le_of_ble_eq_true rfl⟩ (fun x1 => ?_)
  refine q_callVI C dX8_marginOf_6 mv8_181 (cq_X8_checks w l h _ _) rfl ⟨by decide, by decide⟩ ⟨rfl, Nat.le_of_ble_eq_true rfl⟩ (fun x2 h3 => ?_)
  refine q_if_eq C dX8_marginOf_9 (tgt := 20) (by decide) ?_ ?_
  · refine q_iconst C dX8_marginOf_20 rfl ?_
    exact q_iret C Z1 Z2 dX8_marginOf_21
  · refine q_aload_n C dX8_marginOf_12 rfl ?_
    refine q_iload_n C dX8_marginOf_13 rfl ?_
    refine q_pcallVI C dX8_marginOf_14 mv8_216 (cq_X8_marginNow w l h3 _ _) rfl ⟨by decide, by decide⟩ ⟨rfl, Nat.le_of_ble_eq_true rfl⟩ (fun x4 => ?_)
    refine q_goto C dX8_marginOf_17 (tgt := 21) (by decide) ?_
    exact q_iret C Z1 Z2 dX8_marginOf_21
def q_X8_degradedFrames (h : zH) (a_0 : Nat) (x_1 : Int) : Option (Int × zH) := zbp (q_X8_isCall h a_0 x_1) (fun x1 => zbd (q_X8_checks h a_0 x1) (fun x2 h3 => if x2 = 0 then (some (0, h3)) else (zbp (q_X8_of h3 a_0 x_1 11) (fun x4 => some (x4, h3)))))
theorem cq_X8_degradedFrames (w : zW) (l : Launch) (h : zH) (a_0 : Nat) (x_1 : Int) : zCq w l yX8_degradedFrames cX8_degradedFrames 2 (some .int) 1 22 [.inr (8, a_0), .inl x_1] h qI (q_X8_degradedFrames h a_0 x_1) := by
  refine zCq.of (own := RX8) (loc := [some (.inr (8, a_0)), some (.inl x_1)]) (by decide) rfl (Nat.le_of_ble_eq_true rfl) (fun k v hk => ?_) ?_
  · exact zloc_ok 0 rfl hk
  intro p e s m args below meth c C Z1 Z2
  unfold q_X8_degradedFrames
  refine q_aload_n C dX8_degradedFrames_0 rfl ?_
  refine q_aload_n C dX8_degradedFrames_1 rfl ?_
  refine q_iload_n C dX8_degradedFrames_2 rfl ?_
  refine q_pcallVI C dX8_degradedFrames_3 mv8_197 (cq_X8_isCall w l h _ _) rfl ⟨by decide, by decide⟩ ⟨rfl, Nat.le_of_ble_eq_true rfl⟩ (fun x1 => ?_)
  refine q_callVI C dX8_degradedFrames_6 mv8_181 (cq_X8_checks w l h _ _) rfl ⟨by decide, by decide⟩ ⟨rfl, Nat.le_of_ble_eq_true rfl⟩ (fun x2 h3 => ?_)
  refine q_if_eq C dX8_degradedFrames_9 (tgt := 22) (by decide) ?_ ?_
  · refine q_iconst C dX8_degradedFrames_22 rfl ?_
    exact q_iret C Z1 Z2 dX8_degradedFrames_23
  · refine q_aload_n C dX8_degradedFrames_12 rfl ?_
    refine q_iload_n C dX8_degradedFrames_13 rfl ?_
    refine q_bipush C dX8_degradedFrames_14 (by decide) rfl ?_
    refine q_pcallVI C dX8_degradedFrames_16 mv8_200 (cq_X8_of w l h3 _ _ _) rfl ⟨by decide, by decide⟩ ⟨rfl, Nat.le_of_ble_eq_true rfl⟩ (fun x4 => ?_)
    refine q_goto C dX8_degradedFrames_19 (tgt := 23) (by decide) ?_
    exact q_iret C Z1 Z2 dX8_degradedFrames_23
def q_X8_isAhead (h : zH) (a_0 : Nat) (x_1 : Int) (x_2 : Int) : Option Int := zbp (q_X8_of h a_0 x_1 2) (fun x1 => zbp (q_X8_of h a_0 x_2 2) (fun x2 => if x2 < x1 then (some 1) else (if x1 = x2 then (if x_2 ≤ x_1 then (some 0) else (some 1)) else (some 0))))
theorem cq_X8_isAhead (w : zW) (l : Launch) (h : zH) (a_0 : Nat) (x_1 : Int) (x_2 : Int) : zCp w l yX8_isAhead cX8_isAhead 5 (some .boolean) 1 22 [.inr (8, a_0), .inl x_1, .inl x_2] h qI (q_X8_isAhead h a_0 x_1 x_2) := by
  refine zCp.of (own := RX8) (loc := [some (.inr (8, a_0)), some (.inl x_1), some (.inl x_2), none, none]) (by decide) rfl (Nat.le_of_ble_eq_true rfl) (fun k v hk => ?_) ?_
  · exact zloc_ok 2 rfl hk
  intro p e s m args below meth c C Z1 Z2
  unfold q_X8_isAhead
  refine p_aload_n C dX8_isAhead_0 rfl ?_
  refine p_iload_n C dX8_isAhead_1 rfl ?_
  refine p_iconst C dX8_isAhead_2 rfl ?_
  refine p_pcallVI C dX8_isAhead_3 mv8_200 (cq_X8_of w l h _ _ _) rfl ⟨by decide, by decide⟩ ⟨rfl, Nat.le_of_ble_eq_true rfl⟩ (fun x1 => ?_)
  refine p_istore_n C dX8_isAhead_6 (by decide) ?_
  refine p_aload_n C dX8_isAhead_7 rfl ?_
  refine p_iload_n C dX8_isAhead_8 rfl ?_
  refine p_iconst C dX8_isAhead_9 rfl ?_
  refine p_pcallVI C dX8_isAhead_10 mv8_200 (cq_X8_of w l h _ _ _) rfl ⟨by decide, by decide⟩ ⟨rfl, Nat.le_of_ble_eq_true rfl⟩ (fun x2 => ?_)
  refine p_istore C dX8_isAhead_13 (by decide) ?_
  refine p_iload_n C dX8_isAhead_15 rfl ?_
  refine p_iload C dX8_isAhead_16 rfl ?_
  refine p_icmp_gt C dX8_isAhead_18 (tgt := 32) (by decide) ?_ ?_
  · refine p_iconst C dX8_isAhead_32 rfl ?_
    refine p_goto C dX8_isAhead_33 (tgt := 37) (by decide) ?_
    exact p_zret C Z1 Z2 (Or.inr rfl) dX8_isAhead_37
  · refine p_iload_n C dX8_isAhead_21 rfl ?_
    refine p_iload C dX8_isAhead_22 rfl ?_
    refine p_icmp_ne C dX8_isAhead_24 (tgt := 36) (by decide) ?_ ?_
    · refine p_iconst C dX8_isAhead_36 rfl ?_
      exact p_zret C Z1 Z2 (Or.inl rfl) dX8_isAhead_37
    · refine p_iload_n C dX8_isAhead_27 rfl ?_
      refine p_iload_n C dX8_isAhead_28 rfl ?_
      refine p_icmp_ge C dX8_isAhead_29 (tgt := 36) (by decide) ?_ ?_
      · refine p_iconst C dX8_isAhead_36 rfl ?_
        exact p_zret C Z1 Z2 (Or.inl rfl) dX8_isAhead_37
      · refine p_iconst C dX8_isAhead_32 rfl ?_
        refine p_goto C dX8_isAhead_33 (tgt := 37) (by decide) ?_
        exact p_zret C Z1 Z2 (Or.inr rfl) dX8_isAhead_37
def q_X8_orders_L40 (a0 : Nat) (i1 : Int) (i2 : Int) (k : Int → zH → Option (Unit × zH)) : Nat → Int → zH → Option (Unit × zH)
  | 0, _, _ => none
  | n + 1, i3, h => if i3 ≤ 0 then (k i3 h) else (zgi 16 (zw (i3 - 1)) (zbp (q_X8_isAhead h a0 i2 (h.1 (h.2 a0 21) (zw (i3 - 1)).toNat)) (fun x4 => if x4 = 0 then (k i3 h) else (zgi 16 (zw (i3 - 1)) (zgi 16 i3 (zlet (zput h (h.2 a0 21) i3.toNat (h.1 (h.2 a0 21) (zw (i3 - 1)).toNat)) (fun h5 => zlet (zw (i3 + (-1))) (fun x6 => q_X8_orders_L40 a0 i1 i2 k n x6 h5))))))))
def q_X8_orders_L7 (a0 : Nat) (i1 : Int) (k : Int → zH → Option (Unit × zH)) : Nat → Int → zH → Option (Unit × zH)
  | 0, _, _ => none
  | n + 1, i2, h => if h.1 (h.2 a0 5) 404 ≤ i2 then (k i2 h) else (zbp (q_X8_of h a0 i2 5) (fun x2 => if zand (zshr i1 x2) 1 = 0 then (zlet (zw (i2 + 1)) (fun x12 => q_X8_orders_L7 a0 i1 k n x12 h)) else (zlet (h.1 a0 22) (fun x3 => q_X8_orders_L40 a0 i1 i2 (fun x7 h8 => zgi 16 x7 (zlet (zput h8 (h8.2 a0 21) x7.toNat i2) (fun h9 => zlet (zput h9 a0 22 (zw (h9.1 a0 22 + 1))) (fun h10 => zlet (zw (i2 + 1)) (fun x11 => q_X8_orders_L7 a0 i1 k n x11 h10))))) zF x3 h))))
def q_X8_orders (h : zH) (a_0 : Nat) (x_1 : Int) : Option (Unit × zH) := zlet (zput h a_0 22 0) (fun h1 => q_X8_orders_L7 a_0 x_1 (fun x13 h14 => some ((), h14)) zF 0 h1)
theorem cq_X8_orders (w : zW) (l : Launch) (h : zH) (a_0 : Nat) (x_1 : Int) : zCq w l yX8_orders cX8_orders 4 none 2 46 [.inr (8, a_0), .inl x_1] h qU (q_X8_orders h a_0 x_1) := by
  refine zCq.of (own := RX8) (loc := [some (.inr (8, a_0)), some (.inl x_1), none, none]) (by decide) rfl (Nat.le_of_ble_eq_true rfl) (fun k v hk => ?_) ?_
  · exact zloc_ok 2 rfl hk
  intro p e s m args below meth c C Z1 Z2
  have L40 : ∀ (a0 : Nat) (i1 : Int) (i2 : Int) (k : Int → zH → Option (Unit × zH)) (hk : ∀ (i3 : Int) (h : zH), zQV w p l e (zRm 2 46) s m args below meth c 4 qU (k i3 h) 80 [some (.inr (8, a0)), some (.inl i1), some (.inl i2), some (.inl i3)] [] h) (n : Nat) (i3 : Int) (h : zH), zQV w p l e (zRm 2 46) s m args below meth c 4 qU (q_X8_orders_L40 a0 i1 i2 k n i3 h) 40 [some (.inr (8, a0)), some (.inl i1), some (.inl i2), some (.inl i3)] [] h := by
    intro a0 i1 i2 k hk n
    induction n with
    | zero =>
      intro i3 h
      exact q_none
    | succ n ih =>
      intro i3 h
      rw [q_X8_orders_L40]
      refine q_iload_n C dX8_orders_40 rfl ?_
      refine q_if_le C dX8_orders_41 (tgt := 80) (by decide) ?_ ?_
      · exact hk i3 h
      · refine q_aload_n C dX8_orders_44 rfl ?_
        refine q_iload_n C dX8_orders_45 rfl ?_
        refine q_aload_n C dX8_orders_46 rfl ?_
        refine q_getR C dX8_orders_47 fl8_32 rfl ?_
        refine q_iload_n C dX8_orders_50 rfl ?_
        refine q_iconst C dX8_orders_51 rfl ?_
        refine q_isub C dX8_orders_52 ?_
        refine q_iald C dX8_orders_53 ⟨by decide, by decide, rfl⟩ ?_
        refine q_pcallVI C dX8_orders_54 mv8_222 (cq_X8_isAhead w l h _ _ _) rfl ⟨by decide, by decide⟩ ⟨rfl, Nat.le_of_ble_eq_true rfl⟩ (fun x4 => ?_)
        refine q_if_eq C dX8_orders_57 (tgt := 80) (by decide) ?_ ?_
        · exact hk i3 h
        · refine q_aload_n C dX8_orders_60 rfl ?_
          refine q_getR C dX8_orders_61 fl8_32 rfl ?_
          refine q_iload_n C dX8_orders_64 rfl ?_
          refine q_aload_n C dX8_orders_65 rfl ?_
          refine q_getR C dX8_orders_66 fl8_32 rfl ?_
          refine q_iload_n C dX8_orders_69 rfl ?_
          refine q_iconst C dX8_orders_70 rfl ?_
          refine q_isub C dX8_orders_71 ?_
          refine q_iald C dX8_orders_72 ⟨by decide, by decide, rfl⟩ ?_
          refine q_iast C dX8_orders_73 ⟨by decide, by decide, rfl⟩ (fun h5 => ?_)
          refine q_iincL C dX8_orders_74 rfl (by decide) (fun x6 => ?_)
          refine q_goto C dX8_orders_77 (tgt := 40) (by decide) ?_
          exact ih x6 h5
  have L7 : ∀ (a0 : Nat) (i1 : Int) (k : Int → zH → Option (Unit × zH)) (hk : ∀ (u3 : Option zv) (i2 : Int) (h : zH), zQV w p l e (zRm 2 46) s m args below meth c 4 qU (k i2 h) 103 [some (.inr (8, a0)), some (.inl i1), some (.inl i2), u3] [] h) (n : Nat) (u3 : Option zv) (i2 : Int) (h : zH), zQV w p l e (zRm 2 46) s m args below meth c 4 qU (q_X8_orders_L7 a0 i1 k n i2 h) 7 [some (.inr (8, a0)), some (.inl i1), some (.inl i2), u3] [] h := by
    intro a0 i1 k hk n
    induction n with
    | zero =>
      intro u3 i2 h
      exact q_none
    | succ n ih =>
      intro u3 i2 h
      rw [q_X8_orders_L7]
      refine q_iload_n C dX8_orders_7 rfl ?_
      refine q_aload_n C dX8_orders_8 rfl ?_
      refine q_getR C dX8_orders_9 fl8_19 rfl ?_
      refine q_sipush C dX8_orders_12 (by decide) rfl ?_
      refine q_ialdN (j := 404) C dX8_orders_15 ⟨by decide, by decide, rfl⟩ rfl (by decide) ?_
      refine q_icmp_ge C dX8_orders_16 (tgt := 103) (by decide) ?_ ?_
      · exact hk _ i2 h
      · refine q_iload_n C dX8_orders_19 rfl ?_
        refine q_aload_n C dX8_orders_20 rfl ?_
        refine q_iload_n C dX8_orders_21 rfl ?_
        refine q_iconst C dX8_orders_22 rfl ?_
        refine q_pcallVI C dX8_orders_23 mv8_200 (cq_X8_of w l h _ _ _) rfl ⟨by decide, by decide⟩ ⟨rfl, Nat.le_of_ble_eq_true rfl⟩ (fun x2 => ?_)
        refine q_ishr C dX8_orders_26 ?_
        refine q_iconst C dX8_orders_27 rfl ?_
        refine q_iand C dX8_orders_28 ?_
        refine q_if_ne C dX8_orders_29 (tgt := 35) (by decide) ?_ ?_
        · refine q_aload_n C dX8_orders_35 rfl ?_
          refine q_getI C dX8_orders_36 fl8_219 rfl ?_
          refine q_istore_nL C dX8_orders_39 (by decide) (fun x3 => ?_)
          refine L40 a0 i1 i2 _ ?_ zF x3 h
          intro x7 h8
          refine q_aload_n C dX8_orders_80 rfl ?_
          refine q_getR C dX8_orders_81 fl8_32 rfl ?_
          refine q_iload_n C dX8_orders_84 rfl ?_
          refine q_iload_n C dX8_orders_85 rfl ?_
          refine q_iast C dX8_orders_86 ⟨by decide, by decide, rfl⟩ (fun h9 => ?_)
          refine q_aload_n C dX8_orders_87 rfl ?_
          refine q_dup C dX8_orders_88 ?_
          refine q_getI C dX8_orders_89 fl8_219 rfl ?_
          refine q_iconst C dX8_orders_92 rfl ?_
          refine q_iadd C dX8_orders_93 ?_
          refine q_putI C dX8_orders_94 pl8_219 rfl (fun h10 => ?_)
          refine q_iincL C dX8_orders_97 rfl (by decide) (fun x11 => ?_)
          refine q_goto C dX8_orders_100 (tgt := 7) (by decide) ?_
          exact ih _ x11 h10
        · refine q_goto C dX8_orders_32 (tgt := 97) (by decide) ?_
          refine q_iincL C dX8_orders_97 rfl (by decide) (fun x12 => ?_)
          refine q_goto C dX8_orders_100 (tgt := 7) (by decide) ?_
          exact ih _ x12 h
  unfold q_X8_orders
  refine q_aload_n C dX8_orders_0 rfl ?_
  refine q_iconst C dX8_orders_1 rfl ?_
  refine q_putI C dX8_orders_2 pl8_219 rfl (fun h1 => ?_)
  refine q_iconst C dX8_orders_5 rfl ?_
  refine q_istore_n C dX8_orders_6 (by decide) ?_
  refine L7 a_0 x_1 _ ?_ zF _ 0 h1
  intro u15 x13 h14
  exact q_vret C Z1 Z2 dX8_orders_103
def q_X8_queuedAt (h : zH) (a_0 : Nat) (x_1 : Int) : Option (Int × zH) := zlet (zput h a_0 0 0) (fun h1 => zbd (q_X8_orders h1 a_0 1) (fun _ h2 => if x_1 < 0 then (some ((-1), h2)) else (if h2.1 a_0 22 ≤ x_1 then (some ((-1), h2)) else (zgi 16 x_1 (some (h2.1 (h2.2 a_0 21) x_1.toNat, h2))))))
theorem cq_X8_queuedAt (w : zW) (l : Launch) (h : zH) (a_0 : Nat) (x_1 : Int) : zCq w l yX8_queuedAt cX8_queuedAt 2 (some .int) 3 69 [.inr (8, a_0), .inl x_1] h qI (q_X8_queuedAt h a_0 x_1) := by
  refine zCq.of (own := RX8) (loc := [some (.inr (8, a_0)), some (.inl x_1)]) (by decide) rfl (Nat.le_of_ble_eq_true rfl) (fun k v hk => ?_) ?_
  · exact zloc_ok 0 rfl hk
  intro p e s m args below meth c C Z1 Z2
  unfold q_X8_queuedAt
  refine q_aload_n C dX8_queuedAt_0 rfl ?_
  refine q_iconst C dX8_queuedAt_1 rfl ?_
  refine q_putI C dX8_queuedAt_2 pl8_47 rfl (fun h1 => ?_)
  refine q_aload_n C dX8_queuedAt_5 rfl ?_
  refine q_iconst C dX8_queuedAt_6 rfl ?_
  refine q_callVU C dX8_queuedAt_7 mv8_226 (cq_X8_orders w l h1 _ _) rfl ⟨by decide, by decide⟩ ⟨rfl, Nat.le_of_ble_eq_true rfl⟩ (fun _ h2 => ?_)
  refine q_iload_n C dX8_queuedAt_10 rfl ?_
  refine q_if_lt C dX8_queuedAt_11 (tgt := 31) (by decide) ?_ ?_
  · refine q_iconst C dX8_queuedAt_31 rfl ?_
    exact q_iret C Z1 Z2 dX8_queuedAt_32
  · refine q_iload_n C dX8_queuedAt_14 rfl ?_
    refine q_aload_n C dX8_queuedAt_15 rfl ?_
    refine q_getI C dX8_queuedAt_16 fl8_219 rfl ?_
    refine q_icmp_ge C dX8_queuedAt_19 (tgt := 31) (by decide) ?_ ?_
    · refine q_iconst C dX8_queuedAt_31 rfl ?_
      exact q_iret C Z1 Z2 dX8_queuedAt_32
    · refine q_aload_n C dX8_queuedAt_22 rfl ?_
      refine q_getR C dX8_queuedAt_23 fl8_32 rfl ?_
      refine q_iload_n C dX8_queuedAt_26 rfl ?_
      refine q_iald C dX8_queuedAt_27 ⟨by decide, by decide, rfl⟩ ?_
      refine q_goto C dX8_queuedAt_28 (tgt := 32) (by decide) ?_
      exact q_iret C Z1 Z2 dX8_queuedAt_32
def q_X8_queueLength (h : zH) (a_0 : Nat) : Option (Int × zH) := zlet (zput h a_0 0 0) (fun h1 => zbd (q_X8_orders h1 a_0 1) (fun _ h2 => some (h2.1 a_0 22, h2)))
theorem cq_X8_queueLength (w : zW) (l : Launch) (h : zH) (a_0 : Nat) : zCq w l yX8_queueLength cX8_queueLength 1 (some .int) 3 69 [.inr (8, a_0)] h qI (q_X8_queueLength h a_0) := by
  refine zCq.of (own := RX8) (loc := [some (.inr (8, a_0))]) (by decide) rfl (Nat.le_of_ble_eq_true rfl) (fun k v hk => ?_) ?_
  · exact zloc_ok 0 rfl hk
  intro p e s m args below meth c C Z1 Z2
  unfold q_X8_queueLength
  refine q_aload_n C dX8_queueLength_0 rfl ?_
  refine q_iconst C dX8_queueLength_1 rfl ?_
  refine q_putI C dX8_queueLength_2 pl8_47 rfl (fun h1 => ?_)
  refine q_aload_n C dX8_queueLength_5 rfl ?_
  refine q_iconst C dX8_queueLength_6 rfl ?_
  refine q_callVU C dX8_queueLength_7 mv8_226 (cq_X8_orders w l h1 _ _) rfl ⟨by decide, by decide⟩ ⟨rfl, Nat.le_of_ble_eq_true rfl⟩ (fun _ h2 => ?_)
  refine q_aload_n C dX8_queueLength_10 rfl ?_
  refine q_getI C dX8_queueLength_11 fl8_219 rfl ?_
  exact q_iret C Z1 Z2 dX8_queueLength_14
def q_X8_serves_L23 (a0 : Nat) (i1 : Int) (k : Int → zH → Option (Int × zH)) : Nat → Int → zH → Option (Int × zH)
  | 0, _, _ => none
  | n + 1, i2, h => if i1 ≤ i2 then (k i2 h) else (zgi 16 i2 (zgi 16 i2 (zlet (zput h (h.2 a0 28) i2.toNat (h.1 (h.2 a0 21) i2.toNat)) (fun h4 => zlet (zw (i2 + 1)) (fun x5 => q_X8_serves_L23 a0 i1 k n x5 h4)))))
def q_X8_serves_L50 (a0 : Nat) (i1 : Int) (k : Int → Int → zH → Option (Int × zH)) : Nat → Int → Int → zH → Option (Int × zH)
  | 0, _, _, _ => none
  | n + 1, i2, i3, h => if i1 ≤ i3 then (k i2 i3 h) else (zgi 16 i3 (zbd (q_X8_assigns h a0 (h.1 (h.2 a0 28) i3.toNat)) (fun x9 h10 => if x9 = 0 then (zlet (zw (i2 + 0)) (fun x11 => zlet (zw (i3 + 1)) (fun x12 => q_X8_serves_L50 a0 i1 k n x11 x12 h10))) else (zlet (zw (i2 + 1)) (fun x13 => zlet (zw (i3 + 1)) (fun x14 => q_X8_serves_L50 a0 i1 k n x13 x14 h10))))))
def q_X8_serves (h : zH) (a_0 : Nat) : Option (Int × zH) := zlet (zput h a_0 25 (h.1 (h.2 a_0 3) 64)) (fun h1 => zbd (q_X8_orders h1 a_0 1) (fun _ h2 => zlet (h2.1 a_0 22) (fun x3 => q_X8_serves_L23 a_0 x3 (fun x6 h7 => q_X8_serves_L50 a_0 x3 (fun x15 x16 h17 => some (x15, h17)) zF 0 0 h7) zF 0 h2)))
theorem cq_X8_serves (w : zW) (l : Launch) (h : zH) (a_0 : Nat) : zCq w l yX8_serves cX8_serves 4 (some .int) 6 139 [.inr (8, a_0)] h qI (q_X8_serves h a_0) := by
  refine zCq.of (own := RX8) (loc := [some (.inr (8, a_0)), none, none, none]) (by decide) rfl (Nat.le_of_ble_eq_true rfl) (fun k v hk => ?_) ?_
  · exact zloc_ok 3 rfl hk
  intro p e s m args below meth c C Z1 Z2
  have L23 : ∀ (a0 : Nat) (i1 : Int) (k : Int → zH → Option (Int × zH)) (hk : ∀ (u3 : Option zv) (i2 : Int) (h : zH), zQV w p l e (zRm 6 139) s m args below meth c 4 qI (k i2 h) 46 [some (.inr (8, a0)), some (.inl i1), some (.inl i2), u3] [] h) (n : Nat) (u3 : Option zv) (i2 : Int) (h : zH), zQV w p l e (zRm 6 139) s m args below meth c 4 qI (q_X8_serves_L23 a0 i1 k n i2 h) 23 [some (.inr (8, a0)), some (.inl i1), some (.inl i2), u3] [] h := by
    intro a0 i1 k hk n
    induction n with
    | zero =>
      intro u3 i2 h
      exact q_none
    | succ n ih =>
      intro u3 i2 h
      rw [q_X8_serves_L23]
      refine q_iload_n C dX8_serves_23 rfl ?_
      refine q_iload_n C dX8_serves_24 rfl ?_
      refine q_icmp_ge C dX8_serves_25 (tgt := 46) (by decide) ?_ ?_
      · exact hk _ i2 h
      · refine q_aload_n C dX8_serves_28 rfl ?_
        refine q_getR C dX8_serves_29 fl8_41 rfl ?_
        refine q_iload_n C dX8_serves_32 rfl ?_
        refine q_aload_n C dX8_serves_33 rfl ?_
        refine q_getR C dX8_serves_34 fl8_32 rfl ?_
        refine q_iload_n C dX8_serves_37 rfl ?_
        refine q_iald C dX8_serves_38 ⟨by decide, by decide, rfl⟩ ?_
        refine q_iast C dX8_serves_39 ⟨by decide, by decide, rfl⟩ (fun h4 => ?_)
        refine q_iincL C dX8_serves_40 rfl (by decide) (fun x5 => ?_)
        refine q_goto C dX8_serves_43 (tgt := 23) (by decide) ?_
        exact ih _ x5 h4
  have L50 : ∀ (a0 : Nat) (i1 : Int) (k : Int → Int → zH → Option (Int × zH)) (hk : ∀ (i2 : Int) (i3 : Int) (h : zH), zQV w p l e (zRm 6 139) s m args below meth c 4 qI (k i2 i3 h) 82 [some (.inr (8, a0)), some (.inl i1), some (.inl i2), some (.inl i3)] [] h) (n : Nat) (i2 : Int) (i3 : Int) (h : zH), zQV w p l e (zRm 6 139) s m args below meth c 4 qI (q_X8_serves_L50 a0 i1 k n i2 i3 h) 50 [some (.inr (8, a0)), some (.inl i1), some (.inl i2), some (.inl i3)] [] h := by
    intro a0 i1 k hk n
    induction n with
    | zero =>
      intro i2 i3 h
      exact q_none
    | succ n ih =>
      intro i2 i3 h
      rw [q_X8_serves_L50]
      refine q_iload_n C dX8_serves_50 rfl ?_
      refine q_iload_n C dX8_serves_51 rfl ?_
      refine q_icmp_ge C dX8_serves_52 (tgt := 82) (by decide) ?_ ?_
      · exact hk i2 i3 h
      · refine q_iload_n C dX8_serves_55 rfl ?_
        refine q_aload_n C dX8_serves_56 rfl ?_
        refine q_aload_n C dX8_serves_57 rfl ?_
        refine q_getR C dX8_serves_58 fl8_41 rfl ?_
        refine q_iload_n C dX8_serves_61 rfl ?_
        refine q_iald C dX8_serves_62 ⟨by decide, by decide, rfl⟩ ?_
        refine q_callVI C dX8_serves_63 mv8_145 (cq_X8_assigns w l h _ _) rfl ⟨by decide, by decide⟩ ⟨rfl, Nat.le_of_ble_eq_true rfl⟩ (fun x9 h10 => ?_)
        refine q_if_eq C dX8_serves_66 (tgt := 73) (by decide) ?_ ?_
        · refine q_iconst C dX8_serves_73 rfl ?_
          refine q_iadd C dX8_serves_74 ?_
          refine q_istore_nL C dX8_serves_75 (by decide) (fun x11 => ?_)
          refine q_iincL C dX8_serves_76 rfl (by decide) (fun x12 => ?_)
          refine q_goto C dX8_serves_79 (tgt := 50) (by decide) ?_
          exact ih x11 x12 h10
        · refine q_iconst C dX8_serves_69 rfl ?_
          refine q_goto C dX8_serves_70 (tgt := 74) (by decide) ?_
          refine q_iadd C dX8_serves_74 ?_
          refine q_istore_nL C dX8_serves_75 (by decide) (fun x13 => ?_)
          refine q_iincL C dX8_serves_76 rfl (by decide) (fun x14 => ?_)
          refine q_goto C dX8_serves_79 (tgt := 50) (by decide) ?_
          exact ih x13 x14 h10
  unfold q_X8_serves
  refine q_aload_n C dX8_serves_0 rfl ?_
  refine q_aload_n C dX8_serves_1 rfl ?_
  refine q_getR C dX8_serves_2 fl8_13 rfl ?_
  refine q_bipush C dX8_serves_5 (by decide) rfl ?_
  refine q_ialdN (j := 64) C dX8_serves_7 ⟨by decide, by decide, rfl⟩ rfl (by decide) ?_
  refine q_putI C dX8_serves_8 pl8_138 rfl (fun h1 => ?_)
  refine q_aload_n C dX8_serves_11 rfl ?_
  refine q_iconst C dX8_serves_12 rfl ?_
  refine q_callVU C dX8_serves_13 mv8_226 (cq_X8_orders w l h1 _ _) rfl ⟨by decide, by decide⟩ ⟨rfl, Nat.le_of_ble_eq_true rfl⟩ (fun _ h2 => ?_)
  refine q_aload_n C dX8_serves_16 rfl ?_
  refine q_getI C dX8_serves_17 fl8_219 rfl ?_
  refine q_istore_nL C dX8_serves_20 (by decide) (fun x3 => ?_)
  refine q_iconst C dX8_serves_21 rfl ?_
  refine q_istore_n C dX8_serves_22 (by decide) ?_
  refine L23 a_0 x3 _ ?_ zF _ 0 h2
  intro u8 x6 h7
  refine q_iconst C dX8_serves_46 rfl ?_
  refine q_istore_n C dX8_serves_47 (by decide) ?_
  refine q_iconst C dX8_serves_48 rfl ?_
  refine q_istore_n C dX8_serves_49 (by decide) ?_
  refine L50 a_0 x3 _ ?_ zF 0 0 h7
  intro x15 x16 h17
  refine q_iload_n C dX8_serves_82 rfl ?_
  exact q_iret C Z1 Z2 dX8_serves_83
def q_X8_callsOn_L18 (a0 : Nat) (i1 : Int) (k : Int → Int → zH → Option (Int × zH)) : Nat → Int → Int → zH → Option (Int × zH)
  | 0, _, _, _ => none
  | n + 1, i2, i3, h => if h.1 (h.2 a0 5) 404 ≤ i3 then (k i2 i3 h) else (zbp (q_X8_isActive h a0 i3) (fun x4 => if x4 = 0 then (zlet (zw (i2 + 0)) (fun x5 => zlet (zw (i3 + 1)) (fun x6 => q_X8_callsOn_L18 a0 i1 k n x5 x6 h))) else (zbp (q_X8_of h a0 i3 6) (fun x7 => if x7 = i1 then (zlet (zw (i2 + 1)) (fun x10 => zlet (zw (i3 + 1)) (fun x11 => q_X8_callsOn_L18 a0 i1 k n x10 x11 h))) else (zlet (zw (i2 + 0)) (fun x8 => zlet (zw (i3 + 1)) (fun x9 => q_X8_callsOn_L18 a0 i1 k n x8 x9 h)))))))
def q_X8_callsOn (h : zH) (a_0 : Nat) (x_1 : Int) : Option (Int × zH) := zbp (q_X8_isCarrier h a_0 x_1) (fun x1 => zbd (q_X8_checks h a_0 x1) (fun x2 h3 => if x2 = 0 then (some (0, h3)) else (q_X8_callsOn_L18 a_0 x_1 (fun x12 x13 h14 => some (x12, h14)) zF 0 0 h3)))
theorem cq_X8_callsOn (w : zW) (l : Launch) (h : zH) (a_0 : Nat) (x_1 : Int) : zCq w l yX8_callsOn cX8_callsOn 4 (some .int) 2 43 [.inr (8, a_0), .inl x_1] h qI (q_X8_callsOn h a_0 x_1) := by
  refine zCq.of (own := RX8) (loc := [some (.inr (8, a_0)), some (.inl x_1), none, none]) (by decide) rfl (Nat.le_of_ble_eq_true rfl) (fun k v hk => ?_) ?_
  · exact zloc_ok 2 rfl hk
  intro p e s m args below meth c C Z1 Z2
  have L18 : ∀ (a0 : Nat) (i1 : Int) (k : Int → Int → zH → Option (Int × zH)) (hk : ∀ (i2 : Int) (i3 : Int) (h : zH), zQV w p l e (zRm 2 43) s m args below meth c 4 qI (k i2 i3 h) 63 [some (.inr (8, a0)), some (.inl i1), some (.inl i2), some (.inl i3)] [] h) (n : Nat) (i2 : Int) (i3 : Int) (h : zH), zQV w p l e (zRm 2 43) s m args below meth c 4 qI (q_X8_callsOn_L18 a0 i1 k n i2 i3 h) 18 [some (.inr (8, a0)), some (.inl i1), some (.inl i2), some (.inl i3)] [] h := by
    intro a0 i1 k hk n
    induction n with
    | zero =>
      intro i2 i3 h
      exact q_none
    | succ n ih =>
      intro i2 i3 h
      rw [q_X8_callsOn_L18]
      refine q_iload_n C dX8_callsOn_18 rfl ?_
      refine q_aload_n C dX8_callsOn_19 rfl ?_
      refine q_getR C dX8_callsOn_20 fl8_19 rfl ?_
      refine q_sipush C dX8_callsOn_23 (by decide) rfl ?_
      refine q_ialdN (j := 404) C dX8_callsOn_26 ⟨by decide, by decide, rfl⟩ rfl (by decide) ?_
      refine q_icmp_ge C dX8_callsOn_27 (tgt := 63) (by decide) ?_ ?_
      · exact hk i2 i3 h
      · refine q_iload_n C dX8_callsOn_30 rfl ?_
        refine q_aload_n C dX8_callsOn_31 rfl ?_
        refine q_iload_n C dX8_callsOn_32 rfl ?_
        refine q_pcallVI C dX8_callsOn_33 mv8_203 (cq_X8_isActive w l h _ _) rfl ⟨by decide, by decide⟩ ⟨rfl, Nat.le_of_ble_eq_true rfl⟩ (fun x4 => ?_)
        refine q_if_eq C dX8_callsOn_36 (tgt := 54) (by decide) ?_ ?_
        · refine q_iconst C dX8_callsOn_54 rfl ?_
          refine q_iadd C dX8_callsOn_55 ?_
          refine q_istore_nL C dX8_callsOn_56 (by decide) (fun x5 => ?_)
          refine q_iincL C dX8_callsOn_57 rfl (by decide) (fun x6 => ?_)
          refine q_goto C dX8_callsOn_60 (tgt := 18) (by decide) ?_
          exact ih x5 x6 h
        · refine q_aload_n C dX8_callsOn_39 rfl ?_
          refine q_iload_n C dX8_callsOn_40 rfl ?_
          refine q_bipush C dX8_callsOn_41 (by decide) rfl ?_
          refine q_pcallVI C dX8_callsOn_43 mv8_200 (cq_X8_of w l h _ _ _) rfl ⟨by decide, by decide⟩ ⟨rfl, Nat.le_of_ble_eq_true rfl⟩ (fun x7 => ?_)
          refine q_iload_n C dX8_callsOn_46 rfl ?_
          refine q_icmp_ne C dX8_callsOn_47 (tgt := 54) (by decide) ?_ ?_
          · refine q_iconst C dX8_callsOn_54 rfl ?_
            refine q_iadd C dX8_callsOn_55 ?_
            refine q_istore_nL C dX8_callsOn_56 (by decide) (fun x8 => ?_)
            refine q_iincL C dX8_callsOn_57 rfl (by decide) (fun x9 => ?_)
            refine q_goto C dX8_callsOn_60 (tgt := 18) (by decide) ?_
            exact ih x8 x9 h
          · refine q_iconst C dX8_callsOn_50 rfl ?_
            refine q_goto C dX8_callsOn_51 (tgt := 55) (by decide) ?_
            refine q_iadd C dX8_callsOn_55 ?_
            refine q_istore_nL C dX8_callsOn_56 (by decide) (fun x10 => ?_)
            refine q_iincL C dX8_callsOn_57 rfl (by decide) (fun x11 => ?_)
            refine q_goto C dX8_callsOn_60 (tgt := 18) (by decide) ?_
            exact ih x10 x11 h
  unfold q_X8_callsOn
  refine q_aload_n C dX8_callsOn_0 rfl ?_
  refine q_aload_n C dX8_callsOn_1 rfl ?_
  refine q_iload_n C dX8_callsOn_2 rfl ?_
  refine q_pcallVI C dX8_callsOn_3 mv8_254 (cq_X8_isCarrier w l h _ _) rfl ⟨by decide, by decide⟩ ⟨rfl, Nat.le_of_ble_eq_true rfl⟩ (fun x1 => ?_)
  refine q_callVI C dX8_callsOn_6 mv8_181 (cq_X8_checks w l h _ _) rfl ⟨by decide, by decide⟩ ⟨rfl, Nat.le_of_ble_eq_true rfl⟩ (fun x2 h3 => ?_)
  refine q_if_ne C dX8_callsOn_9 (tgt := 14) (by decide) ?_ ?_
  · refine q_iconst C dX8_callsOn_14 rfl ?_
    refine q_istore_n C dX8_callsOn_15 (by decide) ?_
    refine q_iconst C dX8_callsOn_16 rfl ?_
    refine q_istore_n C dX8_callsOn_17 (by decide) ?_
    refine L18 a_0 x_1 _ ?_ zF 0 0 h3
    intro x12 x13 h14
    refine q_iload_n C dX8_callsOn_63 rfl ?_
    exact q_iret C Z1 Z2 dX8_callsOn_64
  · refine q_iconst C dX8_callsOn_12 rfl ?_
    exact q_iret C Z1 Z2 dX8_callsOn_13
def q_X8_usedSymbols_L18 (a0 : Nat) (i1 : Int) (k : Int → Int → zH → Option (Int × zH)) : Nat → Int → Int → zH → Option (Int × zH)
  | 0, _, _, _ => none
  | n + 1, i2, i3, h => if h.1 (h.2 a0 5) 404 ≤ i3 then (k i2 i3 h) else (zbp (q_X8_isActive h a0 i3) (fun x4 => if x4 = 0 then (zlet (zw (i2 + 0)) (fun x5 => zlet (zw (i3 + 1)) (fun x6 => q_X8_usedSymbols_L18 a0 i1 k n x5 x6 h))) else (zbp (q_X8_of h a0 i3 6) (fun x7 => if x7 = i1 then (zbp (q_X8_burst h a0 i3) (fun x10 => zlet (zw (i2 + x10)) (fun x11 => zlet (zw (i3 + 1)) (fun x12 => q_X8_usedSymbols_L18 a0 i1 k n x11 x12 h)))) else (zlet (zw (i2 + 0)) (fun x8 => zlet (zw (i3 + 1)) (fun x9 => q_X8_usedSymbols_L18 a0 i1 k n x8 x9 h)))))))
def q_X8_usedSymbols (h : zH) (a_0 : Nat) (x_1 : Int) : Option (Int × zH) := zbp (q_X8_isCarrier h a_0 x_1) (fun x1 => zbd (q_X8_checks h a_0 x1) (fun x2 h3 => if x2 = 0 then (some (0, h3)) else (q_X8_usedSymbols_L18 a_0 x_1 (fun x13 x14 h15 => some (x13, h15)) zF 0 0 h3)))
theorem cq_X8_usedSymbols (w : zW) (l : Launch) (h : zH) (a_0 : Nat) (x_1 : Int) : zCq w l yX8_usedSymbols cX8_usedSymbols 4 (some .int) 2 43 [.inr (8, a_0), .inl x_1] h qI (q_X8_usedSymbols h a_0 x_1) := by
  refine zCq.of (own := RX8) (loc := [some (.inr (8, a_0)), some (.inl x_1), none, none]) (by decide) rfl (Nat.le_of_ble_eq_true rfl) (fun k v hk => ?_) ?_
  · exact zloc_ok 2 rfl hk
  intro p e s m args below meth c C Z1 Z2
  have L18 : ∀ (a0 : Nat) (i1 : Int) (k : Int → Int → zH → Option (Int × zH)) (hk : ∀ (i2 : Int) (i3 : Int) (h : zH), zQV w p l e (zRm 2 43) s m args below meth c 4 qI (k i2 i3 h) 67 [some (.inr (8, a0)), some (.inl i1), some (.inl i2), some (.inl i3)] [] h) (n : Nat) (i2 : Int) (i3 : Int) (h : zH), zQV w p l e (zRm 2 43) s m args below meth c 4 qI (q_X8_usedSymbols_L18 a0 i1 k n i2 i3 h) 18 [some (.inr (8, a0)), some (.inl i1), some (.inl i2), some (.inl i3)] [] h := by
    intro a0 i1 k hk n
    induction n with
    | zero =>
      intro i2 i3 h
      exact q_none
    | succ n ih =>
      intro i2 i3 h
      rw [q_X8_usedSymbols_L18]
      refine q_iload_n C dX8_usedSymbols_18 rfl ?_
      refine q_aload_n C dX8_usedSymbols_19 rfl ?_
      refine q_getR C dX8_usedSymbols_20 fl8_19 rfl ?_
      refine q_sipush C dX8_usedSymbols_23 (by decide) rfl ?_
      refine q_ialdN (j := 404) C dX8_usedSymbols_26 ⟨by decide, by decide, rfl⟩ rfl (by decide) ?_
      refine q_icmp_ge C dX8_usedSymbols_27 (tgt := 67) (by decide) ?_ ?_
      · exact hk i2 i3 h
      · refine q_iload_n C dX8_usedSymbols_30 rfl ?_
        refine q_aload_n C dX8_usedSymbols_31 rfl ?_
        refine q_iload_n C dX8_usedSymbols_32 rfl ?_
        refine q_pcallVI C dX8_usedSymbols_33 mv8_203 (cq_X8_isActive w l h _ _) rfl ⟨by decide, by decide⟩ ⟨rfl, Nat.le_of_ble_eq_true rfl⟩ (fun x4 => ?_)
        refine q_if_eq C dX8_usedSymbols_36 (tgt := 58) (by decide) ?_ ?_
        · refine q_iconst C dX8_usedSymbols_58 rfl ?_
          refine q_iadd C dX8_usedSymbols_59 ?_
          refine q_istore_nL C dX8_usedSymbols_60 (by decide) (fun x5 => ?_)
          refine q_iincL C dX8_usedSymbols_61 rfl (by decide) (fun x6 => ?_)
          refine q_goto C dX8_usedSymbols_64 (tgt := 18) (by decide) ?_
          exact ih x5 x6 h
        · refine q_aload_n C dX8_usedSymbols_39 rfl ?_
          refine q_iload_n C dX8_usedSymbols_40 rfl ?_
          refine q_bipush C dX8_usedSymbols_41 (by decide) rfl ?_
          refine q_pcallVI C dX8_usedSymbols_43 mv8_200 (cq_X8_of w l h _ _ _) rfl ⟨by decide, by decide⟩ ⟨rfl, Nat.le_of_ble_eq_true rfl⟩ (fun x7 => ?_)
          refine q_iload_n C dX8_usedSymbols_46 rfl ?_
          refine q_icmp_ne C dX8_usedSymbols_47 (tgt := 58) (by decide) ?_ ?_
          · refine q_iconst C dX8_usedSymbols_58 rfl ?_
            refine q_iadd C dX8_usedSymbols_59 ?_
            refine q_istore_nL C dX8_usedSymbols_60 (by decide) (fun x8 => ?_)
            refine q_iincL C dX8_usedSymbols_61 rfl (by decide) (fun x9 => ?_)
            refine q_goto C dX8_usedSymbols_64 (tgt := 18) (by decide) ?_
            exact ih x8 x9 h
          · refine q_aload_n C dX8_usedSymbols_50 rfl ?_
            refine q_iload_n C dX8_usedSymbols_51 rfl ?_
            refine q_pcallVI C dX8_usedSymbols_52 mv8_209 (cq_X8_burst w l h _ _) rfl ⟨by decide, by decide⟩ ⟨rfl, Nat.le_of_ble_eq_true rfl⟩ (fun x10 => ?_)
            refine q_goto C dX8_usedSymbols_55 (tgt := 59) (by decide) ?_
            refine q_iadd C dX8_usedSymbols_59 ?_
            refine q_istore_nL C dX8_usedSymbols_60 (by decide) (fun x11 => ?_)
            refine q_iincL C dX8_usedSymbols_61 rfl (by decide) (fun x12 => ?_)
            refine q_goto C dX8_usedSymbols_64 (tgt := 18) (by decide) ?_
            exact ih x11 x12 h
  unfold q_X8_usedSymbols
  refine q_aload_n C dX8_usedSymbols_0 rfl ?_
  refine q_aload_n C dX8_usedSymbols_1 rfl ?_
  refine q_iload_n C dX8_usedSymbols_2 rfl ?_
  refine q_pcallVI C dX8_usedSymbols_3 mv8_254 (cq_X8_isCarrier w l h _ _) rfl ⟨by decide, by decide⟩ ⟨rfl, Nat.le_of_ble_eq_true rfl⟩ (fun x1 => ?_)
  refine q_callVI C dX8_usedSymbols_6 mv8_181 (cq_X8_checks w l h _ _) rfl ⟨by decide, by decide⟩ ⟨rfl, Nat.le_of_ble_eq_true rfl⟩ (fun x2 h3 => ?_)
  refine q_if_ne C dX8_usedSymbols_9 (tgt := 14) (by decide) ?_ ?_
  · refine q_iconst C dX8_usedSymbols_14 rfl ?_
    refine q_istore_n C dX8_usedSymbols_15 (by decide) ?_
    refine q_iconst C dX8_usedSymbols_16 rfl ?_
    refine q_istore_n C dX8_usedSymbols_17 (by decide) ?_
    refine L18 a_0 x_1 _ ?_ zF 0 0 h3
    intro x13 x14 h15
    refine q_iload_n C dX8_usedSymbols_67 rfl ?_
    exact q_iret C Z1 Z2 dX8_usedSymbols_68
  · refine q_iconst C dX8_usedSymbols_12 rfl ?_
    exact q_iret C Z1 Z2 dX8_usedSymbols_13
def q_X8_callAt_L56 (a0 : Nat) (i1 : Int) (i2 : Int) (i3 : Int) (k : Int → Int → zH → Option (Int × zH)) : Nat → Int → Int → zH → Option (Int × zH)
  | 0, _, _, _ => none
  | n + 1, i4, i5, h => if h.1 (h.2 a0 5) 404 ≤ i5 then (k i4 i5 h) else (zbp (q_X8_isActive h a0 i5) (fun x7 => if x7 = 0 then (zlet (zw (i4 + 0)) (fun x8 => zlet (zw (i5 + 1)) (fun x9 => q_X8_callAt_L56 a0 i1 i2 i3 k n x8 x9 h))) else (zbp (q_X8_of h a0 i5 6) (fun x10 => if x10 = i1 then (zbp (q_X8_of h a0 i5 7) (fun x13 => zbp (q_X8_of h a0 i3 7) (fun x14 => if x14 ≤ x13 then (zlet (zw (i4 + 0)) (fun x15 => zlet (zw (i5 + 1)) (fun x16 => q_X8_callAt_L56 a0 i1 i2 i3 k n x15 x16 h))) else (zlet (zw (i4 + 1)) (fun x17 => zlet (zw (i5 + 1)) (fun x18 => q_X8_callAt_L56 a0 i1 i2 i3 k n x17 x18 h)))))) else (zlet (zw (i4 + 0)) (fun x11 => zlet (zw (i5 + 1)) (fun x12 => q_X8_callAt_L56 a0 i1 i2 i3 k n x11 x12 h)))))))
def q_X8_callAt_L16 (a0 : Nat) (i1 : Int) (i2 : Int) (k : Int → zH → Option (Int × zH)) : Nat → Int → zH → Option (Int × zH)
  | 0, _, _ => none
  | n + 1, i3, h => if h.1 (h.2 a0 5) 404 ≤ i3 then (k i3 h) else (zbp (q_X8_isActive h a0 i3) (fun x4 => if x4 = 0 then (zlet (zw (i3 + 1)) (fun x5 => q_X8_callAt_L16 a0 i1 i2 k n x5 h)) else (zbp (q_X8_of h a0 i3 6) (fun x6 => if x6 = i1 then (q_X8_callAt_L56 a0 i1 i2 i3 (fun x19 x20 h21 => if x19 = i2 then (some (i3, h21)) else (zlet (zw (i3 + 1)) (fun x22 => q_X8_callAt_L16 a0 i1 i2 k n x22 h21))) zF 0 0 h) else (zlet (zw (i3 + 1)) (fun x23 => q_X8_callAt_L16 a0 i1 i2 k n x23 h))))))
def q_X8_callAt (h : zH) (a_0 : Nat) (x_1 : Int) (x_2 : Int) : Option (Int × zH) := zbp (q_X8_isCarrier h a_0 x_1) (fun x1 => zbd (q_X8_checks h a_0 x1) (fun x2 h3 => if x2 = 0 then (some (0, h3)) else (q_X8_callAt_L16 a_0 x_1 x_2 (fun x24 h25 => some ((-1), h25)) zF 0 h3)))
theorem cq_X8_callAt (w : zW) (l : Launch) (h : zH) (a_0 : Nat) (x_1 : Int) (x_2 : Int) : zCq w l yX8_callAt cX8_callAt 6 (some .int) 2 43 [.inr (8, a_0), .inl x_1, .inl x_2] h qI (q_X8_callAt h a_0 x_1 x_2) := by
  refine zCq.of (own := RX8) (loc := [some (.inr (8, a_0)), some (.inl x_1), some (.inl x_2), none, none, none]) (by decide) rfl (Nat.le_of_ble_eq_true rfl) (fun k v hk => ?_) ?_
  · exact zloc_ok 3 rfl hk
  intro p e s m args below meth c C Z1 Z2
  have L56 : ∀ (a0 : Nat) (i1 : Int) (i2 : Int) (i3 : Int) (k : Int → Int → zH → Option (Int × zH)) (hk : ∀ (i4 : Int) (i5 : Int) (h : zH), zQV w p l e (zRm 2 43) s m args below meth c 6 qI (k i4 i5 h) 124 [some (.inr (8, a0)), some (.inl i1), some (.inl i2), some (.inl i3), some (.inl i4), some (.inl i5)] [] h) (n : Nat) (i4 : Int) (i5 : Int) (h : zH), zQV w p l e (zRm 2 43) s m args below meth c 6 qI (q_X8_callAt_L56 a0 i1 i2 i3 k n i4 i5 h) 56 [some (.inr (8, a0)), some (.inl i1), some (.inl i2), some (.inl i3), some (.inl i4), some (.inl i5)] [] h := by
    intro a0 i1 i2 i3 k hk n
    induction n with
    | zero =>
      intro i4 i5 h
      exact q_none
    | succ n ih =>
      intro i4 i5 h
      rw [q_X8_callAt_L56]
      refine q_iload C dX8_callAt_56 rfl ?_
      refine q_aload_n C dX8_callAt_58 rfl ?_
      refine q_getR C dX8_callAt_59 fl8_19 rfl ?_
      refine q_sipush C dX8_callAt_62 (by decide) rfl ?_
      refine q_ialdN (j := 404) C dX8_callAt_65 ⟨by decide, by decide, rfl⟩ rfl (by decide) ?_
      refine q_icmp_ge C dX8_callAt_66 (tgt := 124) (by decide) ?_ ?_
      · exact hk i4 i5 h
      · refine q_iload C dX8_callAt_69 rfl ?_
        refine q_aload_n C dX8_callAt_71 rfl ?_
        refine q_iload C dX8_callAt_72 rfl ?_
        refine q_pcallVI C dX8_callAt_74 mv8_203 (cq_X8_isActive w l h _ _) rfl ⟨by decide, by decide⟩ ⟨rfl, Nat.le_of_ble_eq_true rfl⟩ (fun x7 => ?_)
        refine q_if_eq C dX8_callAt_77 (tgt := 114) (by decide) ?_ ?_
        · refine q_iconst C dX8_callAt_114 rfl ?_
          refine q_iadd C dX8_callAt_115 ?_
          refine q_istoreL C dX8_callAt_116 (by decide) (fun x8 => ?_)
          refine q_iincL C dX8_callAt_118 rfl (by decide) (fun x9 => ?_)
          refine q_goto C dX8_callAt_121 (tgt := 56) (by decide) ?_
          exact ih x8 x9 h
        · refine q_aload_n C dX8_callAt_80 rfl ?_
          refine q_iload C dX8_callAt_81 rfl ?_
          refine q_bipush C dX8_callAt_83 (by decide) rfl ?_
          refine q_pcallVI C dX8_callAt_85 mv8_200 (cq_X8_of w l h _ _ _) rfl ⟨by decide, by decide⟩ ⟨rfl, Nat.le_of_ble_eq_true rfl⟩ (fun x10 => ?_)
          refine q_iload_n C dX8_callAt_88 rfl ?_
          refine q_icmp_ne C dX8_callAt_89 (tgt := 114) (by decide) ?_ ?_
          · refine q_iconst C dX8_callAt_114 rfl ?_
            refine q_iadd C dX8_callAt_115 ?_
            refine q_istoreL C dX8_callAt_116 (by decide) (fun x11 => ?_)
            refine q_iincL C dX8_callAt_118 rfl (by decide) (fun x12 => ?_)
            refine q_goto C dX8_callAt_121 (tgt := 56) (by decide) ?_
            exact ih x11 x12 h
          · refine q_aload_n C dX8_callAt_92 rfl ?_
            refine q_iload C dX8_callAt_93 rfl ?_
            refine q_bipush C dX8_callAt_95 (by decide) rfl ?_
            refine q_pcallVI C dX8_callAt_97 mv8_200 (cq_X8_of w l h _ _ _) rfl ⟨by decide, by decide⟩ ⟨rfl, Nat.le_of_ble_eq_true rfl⟩ (fun x13 => ?_)
            refine q_aload_n C dX8_callAt_100 rfl ?_
            refine q_iload_n C dX8_callAt_101 rfl ?_
            refine q_bipush C dX8_callAt_102 (by decide) rfl ?_
            refine q_pcallVI C dX8_callAt_104 mv8_200 (cq_X8_of w l h _ _ _) rfl ⟨by decide, by decide⟩ ⟨rfl, Nat.le_of_ble_eq_true rfl⟩ (fun x14 => ?_)
            refine q_icmp_ge C dX8_callAt_107 (tgt := 114) (by decide) ?_ ?_
            · refine q_iconst C dX8_callAt_114 rfl ?_
              refine q_iadd C dX8_callAt_115 ?_
              refine q_istoreL C dX8_callAt_116 (by decide) (fun x15 => ?_)
              refine q_iincL C dX8_callAt_118 rfl (by decide) (fun x16 => ?_)
              refine q_goto C dX8_callAt_121 (tgt := 56) (by decide) ?_
              exact ih x15 x16 h
            · refine q_iconst C dX8_callAt_110 rfl ?_
              refine q_goto C dX8_callAt_111 (tgt := 115) (by decide) ?_
              refine q_iadd C dX8_callAt_115 ?_
              refine q_istoreL C dX8_callAt_116 (by decide) (fun x17 => ?_)
              refine q_iincL C dX8_callAt_118 rfl (by decide) (fun x18 => ?_)
              refine q_goto C dX8_callAt_121 (tgt := 56) (by decide) ?_
              exact ih x17 x18 h
  have L16 : ∀ (a0 : Nat) (i1 : Int) (i2 : Int) (k : Int → zH → Option (Int × zH)) (hk : ∀ (u4 u5 : Option zv) (i3 : Int) (h : zH), zQV w p l e (zRm 2 43) s m args below meth c 6 qI (k i3 h) 138 [some (.inr (8, a0)), some (.inl i1), some (.inl i2), some (.inl i3), u4, u5] [] h) (n : Nat) (u4 u5 : Option zv) (i3 : Int) (h : zH), zQV w p l e (zRm 2 43) s m args below meth c 6 qI (q_X8_callAt_L16 a0 i1 i2 k n i3 h) 16 [some (.inr (8, a0)), some (.inl i1), some (.inl i2), some (.inl i3), u4, u5] [] h := by
    intro a0 i1 i2 k hk n
    induction n with
    | zero =>
      intro u4 u5 i3 h
      exact q_none
    | succ n ih =>
      intro u4 u5 i3 h
      rw [q_X8_callAt_L16]
      refine q_iload_n C dX8_callAt_16 rfl ?_
      refine q_aload_n C dX8_callAt_17 rfl ?_
      refine q_getR C dX8_callAt_18 fl8_19 rfl ?_
      refine q_sipush C dX8_callAt_21 (by decide) rfl ?_
      refine q_ialdN (j := 404) C dX8_callAt_24 ⟨by decide, by decide, rfl⟩ rfl (by decide) ?_
      refine q_icmp_ge C dX8_callAt_25 (tgt := 138) (by decide) ?_ ?_
      · exact hk _ _ i3 h
      · refine q_aload_n C dX8_callAt_28 rfl ?_
        refine q_iload_n C dX8_callAt_29 rfl ?_
        refine q_pcallVI C dX8_callAt_30 mv8_203 (cq_X8_isActive w l h _ _) rfl ⟨by decide, by decide⟩ ⟨rfl, Nat.le_of_ble_eq_true rfl⟩ (fun x4 => ?_)
        refine q_if_eq C dX8_callAt_33 (tgt := 132) (by decide) ?_ ?_
        · refine q_iincL C dX8_callAt_132 rfl (by decide) (fun x5 => ?_)
          refine q_goto C dX8_callAt_135 (tgt := 16) (by decide) ?_
          exact ih _ _ x5 h
        · refine q_aload_n C dX8_callAt_36 rfl ?_
          refine q_iload_n C dX8_callAt_37 rfl ?_
          refine q_bipush C dX8_callAt_38 (by decide) rfl ?_
          refine q_pcallVI C dX8_callAt_40 mv8_200 (cq_X8_of w l h _ _ _) rfl ⟨by decide, by decide⟩ ⟨rfl, Nat.le_of_ble_eq_true rfl⟩ (fun x6 => ?_)
          refine q_iload_n C dX8_callAt_43 rfl ?_
          refine q_icmp_eq C dX8_callAt_44 (tgt := 50) (by decide) ?_ ?_
          · refine q_iconst C dX8_callAt_50 rfl ?_
            refine q_istore C dX8_callAt_51 (by decide) ?_
            refine q_iconst C dX8_callAt_53 rfl ?_
            refine q_istore C dX8_callAt_54 (by decide) ?_
            refine L56 a0 i1 i2 i3 _ ?_ zF 0 0 h
            intro x19 x20 h21
            refine q_iload C dX8_callAt_124 rfl ?_
            refine q_iload_n C dX8_callAt_126 rfl ?_
            refine q_icmp_ne C dX8_callAt_127 (tgt := 132) (by decide) ?_ ?_
            · refine q_iincL C dX8_callAt_132 rfl (by decide) (fun x22 => ?_)
              refine q_goto C dX8_callAt_135 (tgt := 16) (by decide) ?_
              exact ih _ _ x22 h21
            · refine q_iload_n C dX8_callAt_130 rfl ?_
              exact q_iret C Z1 Z2 dX8_callAt_131
          · refine q_goto C dX8_callAt_47 (tgt := 132) (by decide) ?_
            refine q_iincL C dX8_callAt_132 rfl (by decide) (fun x23 => ?_)
            refine q_goto C dX8_callAt_135 (tgt := 16) (by decide) ?_
            exact ih _ _ x23 h
  unfold q_X8_callAt
  refine q_aload_n C dX8_callAt_0 rfl ?_
  refine q_aload_n C dX8_callAt_1 rfl ?_
  refine q_iload_n C dX8_callAt_2 rfl ?_
  refine q_pcallVI C dX8_callAt_3 mv8_254 (cq_X8_isCarrier w l h _ _) rfl ⟨by decide, by decide⟩ ⟨rfl, Nat.le_of_ble_eq_true rfl⟩ (fun x1 => ?_)
  refine q_callVI C dX8_callAt_6 mv8_181 (cq_X8_checks w l h _ _) rfl ⟨by decide, by decide⟩ ⟨rfl, Nat.le_of_ble_eq_true rfl⟩ (fun x2 h3 => ?_)
  refine q_if_ne C dX8_callAt_9 (tgt := 14) (by decide) ?_ ?_
  · refine q_iconst C dX8_callAt_14 rfl ?_
    refine q_istore_n C dX8_callAt_15 (by decide) ?_
    refine L16 a_0 x_1 x_2 _ ?_ zF _ _ 0 h3
    intro u26 u27 x24 h25
    refine q_iconst C dX8_callAt_138 rfl ?_
    exact q_iret C Z1 Z2 dX8_callAt_139
  · refine q_iconst C dX8_callAt_12 rfl ?_
    exact q_iret C Z1 Z2 dX8_callAt_13
def q_X8_longestFrom_L10 (h : zH) (a0 : Nat) (i1 : Int) (i2 : Int) (k : Int → Int → Option Int) : Nat → Int → Int → Option Int
  | 0, _, _ => none
  | n + 1, i3, i4 => if h.1 (h.2 a0 5) 404 ≤ i4 then (k i3 i4) else (zbp (q_X8_isActive h a0 i4) (fun x2 => if x2 = 0 then (zlet (zw (i4 + 1)) (fun x3 => q_X8_longestFrom_L10 h a0 i1 i2 k n i3 x3)) else (zbp (q_X8_of h a0 i4 6) (fun x4 => if x4 = i1 then (zbp (q_X8_of h a0 i4 7) (fun x5 => zbp (q_X8_burst h a0 i4) (fun x6 => if i2 < zw (zw (x5 + x6) + h.1 (h.2 a0 5) 2) then (zbp (q_X8_of h a0 i4 7) (fun x7 => zlet (zmin i3 x7) (fun x8 => zlet (zw (i4 + 1)) (fun x9 => q_X8_longestFrom_L10 h a0 i1 i2 k n x8 x9)))) else (zlet (zw (i4 + 1)) (fun x10 => q_X8_longestFrom_L10 h a0 i1 i2 k n i3 x10))))) else (zlet (zw (i4 + 1)) (fun x11 => q_X8_longestFrom_L10 h a0 i1 i2 k n i3 x11))))))
def q_X8_longestFrom (h : zH) (a_0 : Nat) (x_1 : Int) (x_2 : Int) : Option Int := zlet (h.1 (h.2 a_0 5) 1) (fun x1 => q_X8_longestFrom_L10 h a_0 x_1 x_2 (fun x12 x13 => some (zw (zw (x12 - h.1 (h.2 a_0 5) 2) - x_2))) zF x1 0)
theorem cq_X8_longestFrom (w : zW) (l : Launch) (h : zH) (a_0 : Nat) (x_1 : Int) (x_2 : Int) : zCp w l yX8_longestFrom cX8_longestFrom 5 (some .int) 2 72 [.inr (8, a_0), .inl x_1, .inl x_2] h qI (q_X8_longestFrom h a_0 x_1 x_2) := by
  refine zCp.of (own := RX8) (loc := [some (.inr (8, a_0)), some (.inl x_1), some (.inl x_2), none, none]) (by decide) rfl (Nat.le_of_ble_eq_true rfl) (fun k v hk => ?_) ?_
  · exact zloc_ok 2 rfl hk
  intro p e s m args below meth c C Z1 Z2
  have L10 : ∀ (a0 : Nat) (i1 : Int) (i2 : Int) (k : Int → Int → Option Int) (hk : ∀ (i3 : Int) (i4 : Int), zQP w p l e (zRm 2 72) s m args below meth c 5 qI (k i3 i4) 95 [some (.inr (8, a0)), some (.inl i1), some (.inl i2), some (.inl i3), some (.inl i4)] [] h) (n : Nat) (i3 : Int) (i4 : Int), zQP w p l e (zRm 2 72) s m args below meth c 5 qI (q_X8_longestFrom_L10 h a0 i1 i2 k n i3 i4) 10 [some (.inr (8, a0)), some (.inl i1), some (.inl i2), some (.inl i3), some (.inl i4)] [] h := by
    intro a0 i1 i2 k hk n
    induction n with
    | zero =>
      intro i3 i4
      exact p_none
    | succ n ih =>
      intro i3 i4
      rw [q_X8_longestFrom_L10]
      refine p_iload C dX8_longestFrom_10 rfl ?_
      refine p_aload_n C dX8_longestFrom_12 rfl ?_
      refine p_getR C dX8_longestFrom_13 fl8_19 rfl ?_
      refine p_sipush C dX8_longestFrom_16 (by decide) rfl ?_
      refine p_ialdN (j := 404) C dX8_longestFrom_19 ⟨by decide, by decide, rfl⟩ rfl (by decide) ?_
      refine p_icmp_ge C dX8_longestFrom_20 (tgt := 95) (by decide) ?_ ?_
      · exact hk i3 i4
      · refine p_aload_n C dX8_longestFrom_23 rfl ?_
        refine p_iload C dX8_longestFrom_24 rfl ?_
        refine p_pcallVI C dX8_longestFrom_26 mv8_203 (cq_X8_isActive w l h _ _) rfl ⟨by decide, by decide⟩ ⟨rfl, Nat.le_of_ble_eq_true rfl⟩ (fun x2 => ?_)
        refine p_if_eq C dX8_longestFrom_29 (tgt := 89) (by decide) ?_ ?_
        · refine p_iincL C dX8_longestFrom_89 rfl (by decide) (fun x3 => ?_)
          refine p_goto C dX8_longestFrom_92 (tgt := 10) (by decide) ?_
          exact ih i3 x3
        · refine p_aload_n C dX8_longestFrom_32 rfl ?_
          refine p_iload C dX8_longestFrom_33 rfl ?_
          refine p_bipush C dX8_longestFrom_35 (by decide) rfl ?_
          refine p_pcallVI C dX8_longestFrom_37 mv8_200 (cq_X8_of w l h _ _ _) rfl ⟨by decide, by decide⟩ ⟨rfl, Nat.le_of_ble_eq_true rfl⟩ (fun x4 => ?_)
          refine p_iload_n C dX8_longestFrom_40 rfl ?_
          refine p_icmp_eq C dX8_longestFrom_41 (tgt := 47) (by decide) ?_ ?_
          · refine p_iload_n C dX8_longestFrom_47 rfl ?_
            refine p_aload_n C dX8_longestFrom_48 rfl ?_
            refine p_iload C dX8_longestFrom_49 rfl ?_
            refine p_bipush C dX8_longestFrom_51 (by decide) rfl ?_
            refine p_pcallVI C dX8_longestFrom_53 mv8_200 (cq_X8_of w l h _ _ _) rfl ⟨by decide, by decide⟩ ⟨rfl, Nat.le_of_ble_eq_true rfl⟩ (fun x5 => ?_)
            refine p_aload_n C dX8_longestFrom_56 rfl ?_
            refine p_iload C dX8_longestFrom_57 rfl ?_
            refine p_pcallVI C dX8_longestFrom_59 mv8_209 (cq_X8_burst w l h _ _) rfl ⟨by decide, by decide⟩ ⟨rfl, Nat.le_of_ble_eq_true rfl⟩ (fun x6 => ?_)
            refine p_iadd C dX8_longestFrom_62 ?_
            refine p_aload_n C dX8_longestFrom_63 rfl ?_
            refine p_getR C dX8_longestFrom_64 fl8_19 rfl ?_
            refine p_iconst C dX8_longestFrom_67 rfl ?_
            refine p_ialdN (j := 2) C dX8_longestFrom_68 ⟨by decide, by decide, rfl⟩ rfl (by decide) ?_
            refine p_iadd C dX8_longestFrom_69 ?_
            refine p_icmp_lt C dX8_longestFrom_70 (tgt := 76) (by decide) ?_ ?_
            · refine p_iload_n C dX8_longestFrom_76 rfl ?_
              refine p_aload_n C dX8_longestFrom_77 rfl ?_
              refine p_iload C dX8_longestFrom_78 rfl ?_
              refine p_bipush C dX8_longestFrom_80 (by decide) rfl ?_
              refine p_pcallVI C dX8_longestFrom_82 mv8_200 (cq_X8_of w l h _ _ _) rfl ⟨by decide, by decide⟩ ⟨rfl, Nat.le_of_ble_eq_true rfl⟩ (fun x7 => ?_)
              refine p_mmin C dX8_longestFrom_85 (zmem 1586 (by decide +kernel)) ⟨by decide, Nat.le_of_ble_eq_true rfl⟩ ?_
              refine p_istore_nL C dX8_longestFrom_88 (by decide) (fun x8 => ?_)
              refine p_iincL C dX8_longestFrom_89 rfl (by decide) (fun x9 => ?_)
              refine p_goto C dX8_longestFrom_92 (tgt := 10) (by decide) ?_
              exact ih x8 x9
            · refine p_goto C dX8_longestFrom_73 (tgt := 89) (by decide) ?_
              refine p_iincL C dX8_longestFrom_89 rfl (by decide) (fun x10 => ?_)
              refine p_goto C dX8_longestFrom_92 (tgt := 10) (by decide) ?_
              exact ih i3 x10
          · refine p_goto C dX8_longestFrom_44 (tgt := 89) (by decide) ?_
            refine p_iincL C dX8_longestFrom_89 rfl (by decide) (fun x11 => ?_)
            refine p_goto C dX8_longestFrom_92 (tgt := 10) (by decide) ?_
            exact ih i3 x11
  unfold q_X8_longestFrom
  refine p_aload_n C dX8_longestFrom_0 rfl ?_
  refine p_getR C dX8_longestFrom_1 fl8_19 rfl ?_
  refine p_iconst C dX8_longestFrom_4 rfl ?_
  refine p_ialdN (j := 1) C dX8_longestFrom_5 ⟨by decide, by decide, rfl⟩ rfl (by decide) ?_
  refine p_istore_nL C dX8_longestFrom_6 (by decide) (fun x1 => ?_)
  refine p_iconst C dX8_longestFrom_7 rfl ?_
  refine p_istore C dX8_longestFrom_8 (by decide) ?_
  refine L10 a_0 x_1 x_2 _ ?_ zF x1 0
  intro x12 x13
  refine p_iload_n C dX8_longestFrom_95 rfl ?_
  refine p_aload_n C dX8_longestFrom_96 rfl ?_
  refine p_getR C dX8_longestFrom_97 fl8_19 rfl ?_
  refine p_iconst C dX8_longestFrom_100 rfl ?_
  refine p_ialdN (j := 2) C dX8_longestFrom_101 ⟨by decide, by decide, rfl⟩ rfl (by decide) ?_
  refine p_isub C dX8_longestFrom_102 ?_
  refine p_iload_n C dX8_longestFrom_103 rfl ?_
  refine p_isub C dX8_longestFrom_104 ?_
  exact p_iret C Z1 Z2 dX8_longestFrom_105
def q_X8_longestFit_L39 (a0 : Nat) (i1 : Int) (k : Int → Int → zH → Option (Int × zH)) : Nat → Int → Int → zH → Option (Int × zH)
  | 0, _, _, _ => none
  | n + 1, i2, i3, h => if h.1 (h.2 a0 5) 404 ≤ i3 then (k i2 i3 h) else (zbp (q_X8_isActive h a0 i3) (fun x6 => if x6 = 0 then (zlet (zw (i3 + 1)) (fun x7 => q_X8_longestFit_L39 a0 i1 k n i2 x7 h)) else (zbp (q_X8_of h a0 i3 6) (fun x8 => if x8 = i1 then (zbp (q_X8_of h a0 i3 7) (fun x10 => zbp (q_X8_burst h a0 i3) (fun x11 => zbp (q_X8_longestFrom h a0 i1 (zw (zw (x10 + x11) + h.1 (h.2 a0 5) 2))) (fun x12 => zlet (zmax i2 x12) (fun x13 => zlet (zw (i3 + 1)) (fun x14 => q_X8_longestFit_L39 a0 i1 k n x13 x14 h)))))) else (zlet (zw (i3 + 1)) (fun x9 => q_X8_longestFit_L39 a0 i1 k n i2 x9 h))))))
def q_X8_longestFit (h : zH) (a_0 : Nat) (x_1 : Int) : Option (Int × zH) := zbp (q_X8_isCarrier h a_0 x_1) (fun x1 => zbd (q_X8_checks h a_0 x1) (fun x2 h3 => if x2 = 0 then (some (0, h3)) else (zbp (q_X8_longestFrom h3 a_0 x_1 (zw (h3.1 (h3.2 a_0 5) 3 + h3.1 (h3.2 a_0 5) 2))) (fun x4 => zlet (zmax 0 x4) (fun x5 => q_X8_longestFit_L39 a_0 x_1 (fun x15 x16 h17 => some (x15, h17)) zF x5 0 h3)))))
theorem cq_X8_longestFit (w : zW) (l : Launch) (h : zH) (a_0 : Nat) (x_1 : Int) : zCq w l yX8_longestFit cX8_longestFit 4 (some .int) 3 96 [.inr (8, a_0), .inl x_1] h qI (q_X8_longestFit h a_0 x_1) := by
  refine zCq.of (own := RX8) (loc := [some (.inr (8, a_0)), some (.inl x_1), none, none]) (by decide) rfl (Nat.le_of_ble_eq_true rfl) (fun k v hk => ?_) ?_
  · exact zloc_ok 2 rfl hk
  intro p e s m args below meth c C Z1 Z2
  have L39 : ∀ (a0 : Nat) (i1 : Int) (k : Int → Int → zH → Option (Int × zH)) (hk : ∀ (i2 : Int) (i3 : Int) (h : zH), zQV w p l e (zRm 3 96) s m args below meth c 4 qI (k i2 i3 h) 106 [some (.inr (8, a0)), some (.inl i1), some (.inl i2), some (.inl i3)] [] h) (n : Nat) (i2 : Int) (i3 : Int) (h : zH), zQV w p l e (zRm 3 96) s m args below meth c 4 qI (q_X8_longestFit_L39 a0 i1 k n i2 i3 h) 39 [some (.inr (8, a0)), some (.inl i1), some (.inl i2), some (.inl i3)] [] h := by
    intro a0 i1 k hk n
    induction n with
    | zero =>
      intro i2 i3 h
      exact q_none
    | succ n ih =>
      intro i2 i3 h
      rw [q_X8_longestFit_L39]
      refine q_iload_n C dX8_longestFit_39 rfl ?_
      refine q_aload_n C dX8_longestFit_40 rfl ?_
      refine q_getR C dX8_longestFit_41 fl8_19 rfl ?_
      refine q_sipush C dX8_longestFit_44 (by decide) rfl ?_
      refine q_ialdN (j := 404) C dX8_longestFit_47 ⟨by decide, by decide, rfl⟩ rfl (by decide) ?_
      refine q_icmp_ge C dX8_longestFit_48 (tgt := 106) (by decide) ?_ ?_
      · exact hk i2 i3 h
      · refine q_aload_n C dX8_longestFit_51 rfl ?_
        refine q_iload_n C dX8_longestFit_52 rfl ?_
        refine q_pcallVI C dX8_longestFit_53 mv8_203 (cq_X8_isActive w l h _ _) rfl ⟨by decide, by decide⟩ ⟨rfl, Nat.le_of_ble_eq_true rfl⟩ (fun x6 => ?_)
        refine q_if_eq C dX8_longestFit_56 (tgt := 100) (by decide) ?_ ?_
        · refine q_iincL C dX8_longestFit_100 rfl (by decide) (fun x7 => ?_)
          refine q_goto C dX8_longestFit_103 (tgt := 39) (by decide) ?_
          exact ih i2 x7 h
        · refine q_aload_n C dX8_longestFit_59 rfl ?_
          refine q_iload_n C dX8_longestFit_60 rfl ?_
          refine q_bipush C dX8_longestFit_61 (by decide) rfl ?_
          refine q_pcallVI C dX8_longestFit_63 mv8_200 (cq_X8_of w l h _ _ _) rfl ⟨by decide, by decide⟩ ⟨rfl, Nat.le_of_ble_eq_true rfl⟩ (fun x8 => ?_)
          refine q_iload_n C dX8_longestFit_66 rfl ?_
          refine q_icmp_ne C dX8_longestFit_67 (tgt := 100) (by decide) ?_ ?_
          · refine q_iincL C dX8_longestFit_100 rfl (by decide) (fun x9 => ?_)
            refine q_goto C dX8_longestFit_103 (tgt := 39) (by decide) ?_
            exact ih i2 x9 h
          · refine q_iload_n C dX8_longestFit_70 rfl ?_
            refine q_aload_n C dX8_longestFit_71 rfl ?_
            refine q_iload_n C dX8_longestFit_72 rfl ?_
            refine q_aload_n C dX8_longestFit_73 rfl ?_
            refine q_iload_n C dX8_longestFit_74 rfl ?_
            refine q_bipush C dX8_longestFit_75 (by decide) rfl ?_
            refine q_pcallVI C dX8_longestFit_77 mv8_200 (cq_X8_of w l h _ _ _) rfl ⟨by decide, by decide⟩ ⟨rfl, Nat.le_of_ble_eq_true rfl⟩ (fun x10 => ?_)
            refine q_aload_n C dX8_longestFit_80 rfl ?_
            refine q_iload_n C dX8_longestFit_81 rfl ?_
            refine q_pcallVI C dX8_longestFit_82 mv8_209 (cq_X8_burst w l h _ _) rfl ⟨by decide, by decide⟩ ⟨rfl, Nat.le_of_ble_eq_true rfl⟩ (fun x11 => ?_)
            refine q_iadd C dX8_longestFit_85 ?_
            refine q_aload_n C dX8_longestFit_86 rfl ?_
            refine q_getR C dX8_longestFit_87 fl8_19 rfl ?_
            refine q_iconst C dX8_longestFit_90 rfl ?_
            refine q_ialdN (j := 2) C dX8_longestFit_91 ⟨by decide, by decide, rfl⟩ rfl (by decide) ?_
            refine q_iadd C dX8_longestFit_92 ?_
            refine q_pcallVI C dX8_longestFit_93 mv8_262 (cq_X8_longestFrom w l h _ _ _) rfl ⟨by decide, by decide⟩ ⟨rfl, Nat.le_of_ble_eq_true rfl⟩ (fun x12 => ?_)
            refine q_mmax C dX8_longestFit_96 (zmem 1587 (by decide +kernel)) ⟨by decide, Nat.le_of_ble_eq_true rfl⟩ ?_
            refine q_istore_nL C dX8_longestFit_99 (by decide) (fun x13 => ?_)
            refine q_iincL C dX8_longestFit_100 rfl (by decide) (fun x14 => ?_)
            refine q_goto C dX8_longestFit_103 (tgt := 39) (by decide) ?_
            exact ih x13 x14 h
  unfold q_X8_longestFit
  refine q_aload_n C dX8_longestFit_0 rfl ?_
  refine q_aload_n C dX8_longestFit_1 rfl ?_
  refine q_iload_n C dX8_longestFit_2 rfl ?_
  refine q_pcallVI C dX8_longestFit_3 mv8_254 (cq_X8_isCarrier w l h _ _) rfl ⟨by decide, by decide⟩ ⟨rfl, Nat.le_of_ble_eq_true rfl⟩ (fun x1 => ?_)
  refine q_callVI C dX8_longestFit_6 mv8_181 (cq_X8_checks w l h _ _) rfl ⟨by decide, by decide⟩ ⟨rfl, Nat.le_of_ble_eq_true rfl⟩ (fun x2 h3 => ?_)
  refine q_if_ne C dX8_longestFit_9 (tgt := 14) (by decide) ?_ ?_
  · refine q_iconst C dX8_longestFit_14 rfl ?_
    refine q_aload_n C dX8_longestFit_15 rfl ?_
    refine q_iload_n C dX8_longestFit_16 rfl ?_
    refine q_aload_n C dX8_longestFit_17 rfl ?_
    refine q_getR C dX8_longestFit_18 fl8_19 rfl ?_
    refine q_iconst C dX8_longestFit_21 rfl ?_
    refine q_ialdN (j := 3) C dX8_longestFit_22 ⟨by decide, by decide, rfl⟩ rfl (by decide) ?_
    refine q_aload_n C dX8_longestFit_23 rfl ?_
    refine q_getR C dX8_longestFit_24 fl8_19 rfl ?_
    refine q_iconst C dX8_longestFit_27 rfl ?_
    refine q_ialdN (j := 2) C dX8_longestFit_28 ⟨by decide, by decide, rfl⟩ rfl (by decide) ?_
    refine q_iadd C dX8_longestFit_29 ?_
    refine q_pcallVI C dX8_longestFit_30 mv8_262 (cq_X8_longestFrom w l h3 _ _ _) rfl ⟨by decide, by decide⟩ ⟨rfl, Nat.le_of_ble_eq_true rfl⟩ (fun x4 => ?_)
    refine q_mmax C dX8_longestFit_33 (zmem 1587 (by decide +kernel)) ⟨by decide, Nat.le_of_ble_eq_true rfl⟩ ?_
    refine q_istore_nL C dX8_longestFit_36 (by decide) (fun x5 => ?_)
    refine q_iconst C dX8_longestFit_37 rfl ?_
    refine q_istore_n C dX8_longestFit_38 (by decide) ?_
    refine L39 a_0 x_1 _ ?_ zF x5 0 h3
    intro x15 x16 h17
    refine q_iload_n C dX8_longestFit_106 rfl ?_
    exact q_iret C Z1 Z2 dX8_longestFit_107
  · refine q_iconst C dX8_longestFit_12 rfl ?_
    exact q_iret C Z1 Z2 dX8_longestFit_13
def q_X8_nextEnd_L9 (a0 : Nat) (k : Int → Int → zH → Option (Int × zH)) : Nat → Int → Int → zH → Option (Int × zH)
  | 0, _, _, _ => none
  | n + 1, i1, i2, h => if h.1 (h.2 a0 5) 404 ≤ i2 then (k i1 i2 h) else (zbp (q_X8_isActive h a0 i2) (fun x2 => if x2 = 0 then (zlet (zw (i2 + 1)) (fun x3 => q_X8_nextEnd_L9 a0 k n i1 x3 h)) else (if i1 = (-1) then (zbp (q_X8_of h a0 i2 8) (fun x4 => zlet (zw (i2 + 1)) (fun x5 => q_X8_nextEnd_L9 a0 k n x4 x5 h))) else (zbp (q_X8_of h a0 i2 8) (fun x6 => if i1 ≤ x6 then (zlet (zw (i2 + 1)) (fun x7 => q_X8_nextEnd_L9 a0 k n i1 x7 h)) else (zbp (q_X8_of h a0 i2 8) (fun x8 => zlet (zw (i2 + 1)) (fun x9 => q_X8_nextEnd_L9 a0 k n x8 x9 h))))))))
def q_X8_nextEnd (h : zH) (a_0 : Nat) : Option (Int × zH) := zlet (zput h a_0 0 0) (fun h1 => q_X8_nextEnd_L9 a_0 (fun x10 x11 h12 => some (x10, h12)) zF ((-1)) 0 h1)
theorem cq_X8_nextEnd (w : zW) (l : Launch) (h : zH) (a_0 : Nat) : zCq w l yX8_nextEnd cX8_nextEnd 3 (some .int) 2 43 [.inr (8, a_0)] h qI (q_X8_nextEnd h a_0) := by
  refine zCq.of (own := RX8) (loc := [some (.inr (8, a_0)), none, none]) (by decide) rfl (Nat.le_of_ble_eq_true rfl) (fun k v hk => ?_) ?_
  · exact zloc_ok 2 rfl hk
  intro p e s m args below meth c C Z1 Z2
  have L9 : ∀ (a0 : Nat) (k : Int → Int → zH → Option (Int × zH)) (hk : ∀ (i1 : Int) (i2 : Int) (h : zH), zQV w p l e (zRm 2 43) s m args below meth c 3 qI (k i1 i2 h) 59 [some (.inr (8, a0)), some (.inl i1), some (.inl i2)] [] h) (n : Nat) (i1 : Int) (i2 : Int) (h : zH), zQV w p l e (zRm 2 43) s m args below meth c 3 qI (q_X8_nextEnd_L9 a0 k n i1 i2 h) 9 [some (.inr (8, a0)), some (.inl i1), some (.inl i2)] [] h := by
    intro a0 k hk n
    induction n with
    | zero =>
      intro i1 i2 h
      exact q_none
    | succ n ih =>
      intro i1 i2 h
      rw [q_X8_nextEnd_L9]
      refine q_iload_n C dX8_nextEnd_9 rfl ?_
      refine q_aload_n C dX8_nextEnd_10 rfl ?_
      refine q_getR C dX8_nextEnd_11 fl8_19 rfl ?_
      refine q_sipush C dX8_nextEnd_14 (by decide) rfl ?_
      refine q_ialdN (j := 404) C dX8_nextEnd_17 ⟨by decide, by decide, rfl⟩ rfl (by decide) ?_
      refine q_icmp_ge C dX8_nextEnd_18 (tgt := 59) (by decide) ?_ ?_
      · exact hk i1 i2 h
      · refine q_aload_n C dX8_nextEnd_21 rfl ?_
        refine q_iload_n C dX8_nextEnd_22 rfl ?_
        refine q_pcallVI C dX8_nextEnd_23 mv8_203 (cq_X8_isActive w l h _ _) rfl ⟨by decide, by decide⟩ ⟨rfl, Nat.le_of_ble_eq_true rfl⟩ (fun x2 => ?_)
        refine q_if_eq C dX8_nextEnd_26 (tgt := 53) (by decide) ?_ ?_
        · refine q_iincL C dX8_nextEnd_53 rfl (by decide) (fun x3 => ?_)
          refine q_goto C dX8_nextEnd_56 (tgt := 9) (by decide) ?_
          exact ih i1 x3 h
        · refine q_iload_n C dX8_nextEnd_29 rfl ?_
          refine q_iconst C dX8_nextEnd_30 rfl ?_
          refine q_icmp_eq C dX8_nextEnd_31 (tgt := 45) (by decide) ?_ ?_
          · refine q_aload_n C dX8_nextEnd_45 rfl ?_
            refine q_iload_n C dX8_nextEnd_46 rfl ?_
            refine q_bipush C dX8_nextEnd_47 (by decide) rfl ?_
            refine q_pcallVI C dX8_nextEnd_49 mv8_200 (cq_X8_of w l h _ _ _) rfl ⟨by decide, by decide⟩ ⟨rfl, Nat.le_of_ble_eq_true rfl⟩ (fun x4 => ?_)
            refine q_istore_n C dX8_nextEnd_52 (by decide) ?_
            refine q_iincL C dX8_nextEnd_53 rfl (by decide) (fun x5 => ?_)
            refine q_goto C dX8_nextEnd_56 (tgt := 9) (by decide) ?_
            exact ih x4 x5 h
          · refine q_aload_n C dX8_nextEnd_34 rfl ?_
            refine q_iload_n C dX8_nextEnd_35 rfl ?_
            refine q_bipush C dX8_nextEnd_36 (by decide) rfl ?_
            refine q_pcallVI C dX8_nextEnd_38 mv8_200 (cq_X8_of w l h _ _ _) rfl ⟨by decide, by decide⟩ ⟨rfl, Nat.le_of_ble_eq_true rfl⟩ (fun x6 => ?_)
            refine q_iload_n C dX8_nextEnd_41 rfl ?_
            refine q_icmp_ge C dX8_nextEnd_42 (tgt := 53) (by decide) ?_ ?_
            · refine q_iincL C dX8_nextEnd_53 rfl (by decide) (fun x7 => ?_)
              refine q_goto C dX8_nextEnd_56 (tgt := 9) (by decide) ?_
              exact ih i1 x7 h
            · refine q_aload_n C dX8_nextEnd_45 rfl ?_
              refine q_iload_n C dX8_nextEnd_46 rfl ?_
              refine q_bipush C dX8_nextEnd_47 (by decide) rfl ?_
              refine q_pcallVI C dX8_nextEnd_49 mv8_200 (cq_X8_of w l h _ _ _) rfl ⟨by decide, by decide⟩ ⟨rfl, Nat.le_of_ble_eq_true rfl⟩ (fun x8 => ?_)
              refine q_istore_n C dX8_nextEnd_52 (by decide) ?_
              refine q_iincL C dX8_nextEnd_53 rfl (by decide) (fun x9 => ?_)
              refine q_goto C dX8_nextEnd_56 (tgt := 9) (by decide) ?_
              exact ih x8 x9 h
  unfold q_X8_nextEnd
  refine q_aload_n C dX8_nextEnd_0 rfl ?_
  refine q_iconst C dX8_nextEnd_1 rfl ?_
  refine q_putI C dX8_nextEnd_2 pl8_47 rfl (fun h1 => ?_)
  refine q_iconst C dX8_nextEnd_5 rfl ?_
  refine q_istore_n C dX8_nextEnd_6 (by decide) ?_
  refine q_iconst C dX8_nextEnd_7 rfl ?_
  refine q_istore_n C dX8_nextEnd_8 (by decide) ?_
  refine L9 a_0 _ ?_ zF ((-1)) 0 h1
  intro x10 x11 h12
  refine q_iload_n C dX8_nextEnd_59 rfl ?_
  exact q_iret C Z1 Z2 dX8_nextEnd_60
def q_X8_priorityOf (h : zH) (a_0 : Nat) (x_1 : Int) : Option (Int × zH) := zbp (q_X8_isCall h a_0 x_1) (fun x1 => zbd (q_X8_checks h a_0 x1) (fun x2 h3 => if x2 = 0 then (some (0, h3)) else (zbp (q_X8_of h3 a_0 x_1 2) (fun x4 => some (x4, h3)))))
theorem cq_X8_priorityOf (w : zW) (l : Launch) (h : zH) (a_0 : Nat) (x_1 : Int) : zCq w l yX8_priorityOf cX8_priorityOf 2 (some .int) 1 22 [.inr (8, a_0), .inl x_1] h qI (q_X8_priorityOf h a_0 x_1) := by
  refine zCq.of (own := RX8) (loc := [some (.inr (8, a_0)), some (.inl x_1)]) (by decide) rfl (Nat.le_of_ble_eq_true rfl) (fun k v hk => ?_) ?_
  · exact zloc_ok 0 rfl hk
  intro p e s m args below meth c C Z1 Z2
  unfold q_X8_priorityOf
  refine q_aload_n C dX8_priorityOf_0 rfl ?_
  refine q_aload_n C dX8_priorityOf_1 rfl ?_
  refine q_iload_n C dX8_priorityOf_2 rfl ?_
  refine q_pcallVI C dX8_priorityOf_3 mv8_197 (cq_X8_isCall w l h _ _) rfl ⟨by decide, by decide⟩ ⟨rfl, Nat.le_of_ble_eq_true rfl⟩ (fun x1 => ?_)
  refine q_callVI C dX8_priorityOf_6 mv8_181 (cq_X8_checks w l h _ _) rfl ⟨by decide, by decide⟩ ⟨rfl, Nat.le_of_ble_eq_true rfl⟩ (fun x2 h3 => ?_)
  refine q_if_eq C dX8_priorityOf_9 (tgt := 21) (by decide) ?_ ?_
  · refine q_iconst C dX8_priorityOf_21 rfl ?_
    exact q_iret C Z1 Z2 dX8_priorityOf_22
  · refine q_aload_n C dX8_priorityOf_12 rfl ?_
    refine q_iload_n C dX8_priorityOf_13 rfl ?_
    refine q_iconst C dX8_priorityOf_14 rfl ?_
    refine q_pcallVI C dX8_priorityOf_15 mv8_200 (cq_X8_of w l h3 _ _ _) rfl ⟨by decide, by decide⟩ ⟨rfl, Nat.le_of_ble_eq_true rfl⟩ (fun x4 => ?_)
    refine q_goto C dX8_priorityOf_18 (tgt := 22) (by decide) ?_
    exact q_iret C Z1 Z2 dX8_priorityOf_22
def q_X8_callOver_L16 (a0 : Nat) (i1 : Int) (i2 : Int) (k : Int → zH → Option (Int × zH)) : Nat → Int → zH → Option (Int × zH)
  | 0, _, _ => none
  | n + 1, i3, h => if h.1 (h.2 a0 5) 404 ≤ i3 then (k i3 h) else (zbp (q_X8_isActive h a0 i3) (fun x4 => if x4 = 0 then (zlet (zw (i3 + 1)) (fun x5 => q_X8_callOver_L16 a0 i1 i2 k n x5 h)) else (zbp (q_X8_of h a0 i3 6) (fun x6 => if x6 = i1 then (zbp (q_X8_of h a0 i3 7) (fun x7 => if i2 < x7 then (zlet (zw (i3 + 1)) (fun x8 => q_X8_callOver_L16 a0 i1 i2 k n x8 h)) else (zbp (q_X8_of h a0 i3 7) (fun x9 => zbp (q_X8_burst h a0 i3) (fun x10 => if zw (x9 + x10) ≤ i2 then (zlet (zw (i3 + 1)) (fun x11 => q_X8_callOver_L16 a0 i1 i2 k n x11 h)) else (some (i3, h))))))) else (zlet (zw (i3 + 1)) (fun x12 => q_X8_callOver_L16 a0 i1 i2 k n x12 h))))))
def q_X8_callOver (h : zH) (a_0 : Nat) (x_1 : Int) (x_2 : Int) : Option (Int × zH) := zbp (q_X8_isCarrier h a_0 x_1) (fun x1 => zbd (q_X8_checks h a_0 x1) (fun x2 h3 => if x2 = 0 then (some (0, h3)) else (q_X8_callOver_L16 a_0 x_1 x_2 (fun x13 h14 => some ((-1), h14)) zF 0 h3)))
theorem cq_X8_callOver (w : zW) (l : Launch) (h : zH) (a_0 : Nat) (x_1 : Int) (x_2 : Int) : zCq w l yX8_callOver cX8_callOver 4 (some .int) 2 43 [.inr (8, a_0), .inl x_1, .inl x_2] h qI (q_X8_callOver h a_0 x_1 x_2) := by
  refine zCq.of (own := RX8) (loc := [some (.inr (8, a_0)), some (.inl x_1), some (.inl x_2), none]) (by decide) rfl (Nat.le_of_ble_eq_true rfl) (fun k v hk => ?_) ?_
  · exact zloc_ok 1 rfl hk
  intro p e s m args below meth c C Z1 Z2
  have L16 : ∀ (a0 : Nat) (i1 : Int) (i2 : Int) (k : Int → zH → Option (Int × zH)) (hk : ∀ (i3 : Int) (h : zH), zQV w p l e (zRm 2 43) s m args below meth c 4 qI (k i3 h) 86 [some (.inr (8, a0)), some (.inl i1), some (.inl i2), some (.inl i3)] [] h) (n : Nat) (i3 : Int) (h : zH), zQV w p l e (zRm 2 43) s m args below meth c 4 qI (q_X8_callOver_L16 a0 i1 i2 k n i3 h) 16 [some (.inr (8, a0)), some (.inl i1), some (.inl i2), some (.inl i3)] [] h := by
    intro a0 i1 i2 k hk n
    induction n with
    | zero =>
      intro i3 h
      exact q_none
    | succ n ih =>
      intro i3 h
      rw [q_X8_callOver_L16]
      refine q_iload_n C dX8_callOver_16 rfl ?_
      refine q_aload_n C dX8_callOver_17 rfl ?_
      refine q_getR C dX8_callOver_18 fl8_19 rfl ?_
      refine q_sipush C dX8_callOver_21 (by decide) rfl ?_
      refine q_ialdN (j := 404) C dX8_callOver_24 ⟨by decide, by decide, rfl⟩ rfl (by decide) ?_
      refine q_icmp_ge C dX8_callOver_25 (tgt := 86) (by decide) ?_ ?_
      · exact hk i3 h
      · refine q_aload_n C dX8_callOver_28 rfl ?_
        refine q_iload_n C dX8_callOver_29 rfl ?_
        refine q_pcallVI C dX8_callOver_30 mv8_203 (cq_X8_isActive w l h _ _) rfl ⟨by decide, by decide⟩ ⟨rfl, Nat.le_of_ble_eq_true rfl⟩ (fun x4 => ?_)
        refine q_if_eq C dX8_callOver_33 (tgt := 80) (by decide) ?_ ?_
        · refine q_iincL C dX8_callOver_80 rfl (by decide) (fun x5 => ?_)
          refine q_goto C dX8_callOver_83 (tgt := 16) (by decide) ?_
          exact ih x5 h
        · refine q_aload_n C dX8_callOver_36 rfl ?_
          refine q_iload_n C dX8_callOver_37 rfl ?_
          refine q_bipush C dX8_callOver_38 (by decide) rfl ?_
          refine q_pcallVI C dX8_callOver_40 mv8_200 (cq_X8_of w l h _ _ _) rfl ⟨by decide, by decide⟩ ⟨rfl, Nat.le_of_ble_eq_true rfl⟩ (fun x6 => ?_)
          refine q_iload_n C dX8_callOver_43 rfl ?_
          refine q_icmp_eq C dX8_callOver_44 (tgt := 50) (by decide) ?_ ?_
          · refine q_iload_n C dX8_callOver_50 rfl ?_
            refine q_aload_n C dX8_callOver_51 rfl ?_
            refine q_iload_n C dX8_callOver_52 rfl ?_
            refine q_bipush C dX8_callOver_53 (by decide) rfl ?_
            refine q_pcallVI C dX8_callOver_55 mv8_200 (cq_X8_of w l h _ _ _) rfl ⟨by decide, by decide⟩ ⟨rfl, Nat.le_of_ble_eq_true rfl⟩ (fun x7 => ?_)
            refine q_icmp_lt C dX8_callOver_58 (tgt := 80) (by decide) ?_ ?_
            · refine q_iincL C dX8_callOver_80 rfl (by decide) (fun x8 => ?_)
              refine q_goto C dX8_callOver_83 (tgt := 16) (by decide) ?_
              exact ih x8 h
            · refine q_iload_n C dX8_callOver_61 rfl ?_
              refine q_aload_n C dX8_callOver_62 rfl ?_
              refine q_iload_n C dX8_callOver_63 rfl ?_
              refine q_bipush C dX8_callOver_64 (by decide) rfl ?_
              refine q_pcallVI C dX8_callOver_66 mv8_200 (cq_X8_of w l h _ _ _) rfl ⟨by decide, by decide⟩ ⟨rfl, Nat.le_of_ble_eq_true rfl⟩ (fun x9 => ?_)
              refine q_aload_n C dX8_callOver_69 rfl ?_
              refine q_iload_n C dX8_callOver_70 rfl ?_
              refine q_pcallVI C dX8_callOver_71 mv8_209 (cq_X8_burst w l h _ _) rfl ⟨by decide, by decide⟩ ⟨rfl, Nat.le_of_ble_eq_true rfl⟩ (fun x10 => ?_)
              refine q_iadd C dX8_callOver_74 ?_
              refine q_icmp_ge C dX8_callOver_75 (tgt := 80) (by decide) ?_ ?_
              · refine q_iincL C dX8_callOver_80 rfl (by decide) (fun x11 => ?_)
                refine q_goto C dX8_callOver_83 (tgt := 16) (by decide) ?_
                exact ih x11 h
              · refine q_iload_n C dX8_callOver_78 rfl ?_
                exact q_iret C Z1 Z2 dX8_callOver_79
          · refine q_goto C dX8_callOver_47 (tgt := 80) (by decide) ?_
            refine q_iincL C dX8_callOver_80 rfl (by decide) (fun x12 => ?_)
            refine q_goto C dX8_callOver_83 (tgt := 16) (by decide) ?_
            exact ih x12 h
  unfold q_X8_callOver
  refine q_aload_n C dX8_callOver_0 rfl ?_
  refine q_aload_n C dX8_callOver_1 rfl ?_
  refine q_iload_n C dX8_callOver_2 rfl ?_
  refine q_pcallVI C dX8_callOver_3 mv8_254 (cq_X8_isCarrier w l h _ _) rfl ⟨by decide, by decide⟩ ⟨rfl, Nat.le_of_ble_eq_true rfl⟩ (fun x1 => ?_)
  refine q_callVI C dX8_callOver_6 mv8_181 (cq_X8_checks w l h _ _) rfl ⟨by decide, by decide⟩ ⟨rfl, Nat.le_of_ble_eq_true rfl⟩ (fun x2 h3 => ?_)
  refine q_if_ne C dX8_callOver_9 (tgt := 14) (by decide) ?_ ?_
  · refine q_iconst C dX8_callOver_14 rfl ?_
    refine q_istore_n C dX8_callOver_15 (by decide) ?_
    refine L16 a_0 x_1 x_2 _ ?_ zF 0 h3
    intro x13 h14
    refine q_iconst C dX8_callOver_86 rfl ?_
    exact q_iret C Z1 Z2 dX8_callOver_87
  · refine q_iconst C dX8_callOver_12 rfl ?_
    exact q_iret C Z1 Z2 dX8_callOver_13
def q_X8_earliestStart_L80 (a0 : Nat) (i1 : Int) (i2 : Int) (i3 : Int) (k : Int → Int → zH → Option (Int × zH)) : Nat → Int → Int → zH → Option (Int × zH)
  | 0, _, _, _ => none
  | n + 1, i4, i5, h => if h.1 (h.2 a0 5) 404 ≤ i5 then (k i4 i5 h) else (zgi 16 i5 (if h.1 (h.2 a0 23) i5.toNat = (-1) then (if i3 < i3 then (zlet (zw (i5 + 1)) (fun x18 => q_X8_earliestStart_L80 a0 i1 i2 i3 k n i4 x18 h)) else (if i4 = (-1) then (zbp (q_X8_isFree h a0 i1 i2 i3) (fun x19 => if x19 = 0 then (zlet (zw (i5 + 1)) (fun x21 => q_X8_earliestStart_L80 a0 i1 i2 i3 k n i4 x21 h)) else (zlet (zw (i5 + 1)) (fun x20 => q_X8_earliestStart_L80 a0 i1 i2 i3 k n i3 x20 h)))) else (if i4 ≤ i3 then (zlet (zw (i5 + 1)) (fun x22 => q_X8_earliestStart_L80 a0 i1 i2 i3 k n i4 x22 h)) else (zbp (q_X8_isFree h a0 i1 i2 i3) (fun x23 => if x23 = 0 then (zlet (zw (i5 + 1)) (fun x25 => q_X8_earliestStart_L80 a0 i1 i2 i3 k n i4 x25 h)) else (zlet (zw (i5 + 1)) (fun x24 => q_X8_earliestStart_L80 a0 i1 i2 i3 k n i3 x24 h))))))) else (zgi 16 i5 (zbp (q_X8_burst h a0 i5) (fun x8 => zlet (zw (zw (h.1 (h.2 a0 24) i5.toNat + x8) + h.1 (h.2 a0 5) 2)) (fun x9 => if x9 < i3 then (zlet (zw (i5 + 1)) (fun x10 => q_X8_earliestStart_L80 a0 i1 i2 i3 k n i4 x10 h)) else (if i4 = (-1) then (zbp (q_X8_isFree h a0 i1 i2 x9) (fun x11 => if x11 = 0 then (zlet (zw (i5 + 1)) (fun x13 => q_X8_earliestStart_L80 a0 i1 i2 i3 k n i4 x13 h)) else (zlet (zw (i5 + 1)) (fun x12 => q_X8_earliestStart_L80 a0 i1 i2 i3 k n x9 x12 h)))) else (if i4 ≤ x9 then (zlet (zw (i5 + 1)) (fun x14 => q_X8_earliestStart_L80 a0 i1 i2 i3 k n i4 x14 h)) else (zbp (q_X8_isFree h a0 i1 i2 x9) (fun x15 => if x15 = 0 then (zlet (zw (i5 + 1)) (fun x17 => q_X8_earliestStart_L80 a0 i1 i2 i3 k n i4 x17 h)) else (zlet (zw (i5 + 1)) (fun x16 => q_X8_earliestStart_L80 a0 i1 i2 i3 k n x9 x16 h))))))))))))
def q_X8_earliestStart (h : zH) (a_0 : Nat) (x_1 : Int) (x_2 : Int) : Option (Int × zH) := zbp (q_X8_isCall h a_0 x_1) (fun x1 => if x1 = 0 then (zbd (q_X8_checks h a_0 0) (fun x2 h3 => if x2 = 0 then (some (0, h3)) else (zbp (q_X8_of h3 a_0 x_1 5) (fun x4 => if x4 = 0 then (zbd (q_X8_laysBursts h3 a_0 0) (fun _ h5 => zlet (zw (h5.1 (h5.2 a_0 5) 3 + h5.1 (h5.2 a_0 5) 2)) (fun x6 => zbp (q_X8_isFree h5 a_0 x_1 x_2 x6) (fun x7 => if x7 = 0 then (q_X8_earliestStart_L80 a_0 x_1 x_2 x6 (fun x26 x27 h28 => some (x26, h28)) zF ((-1)) 0 h5) else (q_X8_earliestStart_L80 a_0 x_1 x_2 x6 (fun x30 x31 h32 => some (x30, h32)) zF x6 0 h5))))) else (some ((-1), h3)))))) else (zbp (q_X8_isCarrier h a_0 x_2) (fun x34 => if x34 = 0 then (zbd (q_X8_checks h a_0 0) (fun x35 h36 => if x35 = 0 then (some (0, h36)) else (zbp (q_X8_of h36 a_0 x_1 5) (fun x37 => if x37 = 0 then (zbd (q_X8_laysBursts h36 a_0 0) (fun _ h38 => zlet (zw (h38.1 (h38.2 a_0 5) 3 + h38.1 (h38.2 a_0 5) 2)) (fun x39 => zbp (q_X8_isFree h38 a_0 x_1 x_2 x39) (fun x40 => if x40 = 0 then (q_X8_earliestStart_L80 a_0 x_1 x_2 x39 (fun x41 x42 h43 => some (x41, h43)) zF ((-1)) 0 h38) else (q_X8_earliestStart_L80 a_0 x_1 x_2 x39 (fun x45 x46 h47 => some (x45, h47)) zF x39 0 h38))))) else (some ((-1), h36)))))) else (zbd (q_X8_checks h a_0 1) (fun x49 h50 => if x49 = 0 then (some (0, h50)) else (zbp (q_X8_of h50 a_0 x_1 5) (fun x51 => if x51 = 0 then (zbd (q_X8_laysBursts h50 a_0 0) (fun _ h52 => zlet (zw (h52.1 (h52.2 a_0 5) 3 + h52.1 (h52.2 a_0 5) 2)) (fun x53 => zbp (q_X8_isFree h52 a_0 x_1 x_2 x53) (fun x54 => if x54 = 0 then (q_X8_earliestStart_L80 a_0 x_1 x_2 x53 (fun x55 x56 h57 => some (x55, h57)) zF ((-1)) 0 h52) else (q_X8_earliestStart_L80 a_0 x_1 x_2 x53 (fun x59 x60 h61 => some (x59, h61)) zF x53 0 h52))))) else (some ((-1), h50)))))))))
theorem cq_X8_earliestStart (w : zW) (l : Launch) (h : zH) (a_0 : Nat) (x_1 : Int) (x_2 : Int) : zCq w l yX8_earliestStart cX8_earliestStart 7 (some .int) 3 70 [.inr (8, a_0), .inl x_1, .inl x_2] h qI (q_X8_earliestStart h a_0 x_1 x_2) := by
  refine zCq.of (own := RX8) (loc := [some (.inr (8, a_0)), some (.inl x_1), some (.inl x_2), none, none, none, none]) (by decide) rfl (Nat.le_of_ble_eq_true rfl) (fun k v hk => ?_) ?_
  · exact zloc_ok 4 rfl hk
  intro p e s m args below meth c C Z1 Z2
  have L80 : ∀ (a0 : Nat) (i1 : Int) (i2 : Int) (i3 : Int) (k : Int → Int → zH → Option (Int × zH)) (hk : ∀ (u6 : Option zv) (i4 : Int) (i5 : Int) (h : zH), zQV w p l e (zRm 3 70) s m args below meth c 7 qI (k i4 i5 h) 174 [some (.inr (8, a0)), some (.inl i1), some (.inl i2), some (.inl i3), some (.inl i4), some (.inl i5), u6] [] h) (n : Nat) (u6 : Option zv) (i4 : Int) (i5 : Int) (h : zH), zQV w p l e (zRm 3 70) s m args below meth c 7 qI (q_X8_earliestStart_L80 a0 i1 i2 i3 k n i4 i5 h) 80 [some (.inr (8, a0)), some (.inl i1), some (.inl i2), some (.inl i3), some (.inl i4), some (.inl i5), u6] [] h := by
    intro a0 i1 i2 i3 k hk n
    induction n with
    | zero =>
      intro u6 i4 i5 h
      exact q_none
    | succ n ih =>
      intro u6 i4 i5 h
      rw [q_X8_earliestStart_L80]
      refine q_iload C dX8_earliestStart_80 rfl ?_
      refine q_aload_n C dX8_earliestStart_82 rfl ?_
      refine q_getR C dX8_earliestStart_83 fl8_19 rfl ?_
      refine q_sipush C dX8_earliestStart_86 (by decide) rfl ?_
      refine q_ialdN (j := 404) C dX8_earliestStart_89 ⟨by decide, by decide, rfl⟩ rfl (by decide) ?_
      refine q_icmp_ge C dX8_earliestStart_90 (tgt := 174) (by decide) ?_ ?_
      · exact hk _ i4 i5 h
      · refine q_aload_n C dX8_earliestStart_93 rfl ?_
        refine q_getR C dX8_earliestStart_94 fl8_35 rfl ?_
        refine q_iload C dX8_earliestStart_97 rfl ?_
        refine q_iald C dX8_earliestStart_99 ⟨by decide, by decide, rfl⟩ ?_
        refine q_iconst C dX8_earliestStart_100 rfl ?_
        refine q_icmp_ne C dX8_earliestStart_101 (tgt := 108) (by decide) ?_ ?_
        · refine q_aload_n C dX8_earliestStart_108 rfl ?_
          refine q_getR C dX8_earliestStart_109 fl8_38 rfl ?_
          refine q_iload C dX8_earliestStart_112 rfl ?_
          refine q_iald C dX8_earliestStart_114 ⟨by decide, by decide, rfl⟩ ?_
          refine q_aload_n C dX8_earliestStart_115 rfl ?_
          refine q_iload C dX8_earliestStart_116 rfl ?_
          refine q_pcallVI C dX8_earliestStart_118 mv8_209 (cq_X8_burst w l h _ _) rfl ⟨by decide, by decide⟩ ⟨rfl, Nat.le_of_ble_eq_true rfl⟩ (fun x8 => ?_)
          refine q_iadd C dX8_earliestStart_121 ?_
          refine q_aload_n C dX8_earliestStart_122 rfl ?_
          refine q_getR C dX8_earliestStart_123 fl8_19 rfl ?_
          refine q_iconst C dX8_earliestStart_126 rfl ?_
          refine q_ialdN (j := 2) C dX8_earliestStart_127 ⟨by decide, by decide, rfl⟩ rfl (by decide) ?_
          refine q_iadd C dX8_earliestStart_128 ?_
          refine q_istoreL C dX8_earliestStart_129 (by decide) (fun x9 => ?_)
          refine q_iload C dX8_earliestStart_131 rfl ?_
          refine q_iload_n C dX8_earliestStart_133 rfl ?_
          refine q_icmp_lt C dX8_earliestStart_134 (tgt := 168) (by decide) ?_ ?_
          · refine q_iincL C dX8_earliestStart_168 rfl (by decide) (fun x10 => ?_)
            refine q_goto C dX8_earliestStart_171 (tgt := 80) (by decide) ?_
            exact ih _ i4 x10 h
          · refine q_iload C dX8_earliestStart_137 rfl ?_
            refine q_iconst C dX8_earliestStart_139 rfl ?_
            refine q_icmp_eq C dX8_earliestStart_140 (tgt := 150) (by decide) ?_ ?_
            · refine q_aload_n C dX8_earliestStart_150 rfl ?_
              refine q_iload_n C dX8_earliestStart_151 rfl ?_
              refine q_iload_n C dX8_earliestStart_152 rfl ?_
              refine q_iload C dX8_earliestStart_153 rfl ?_
              refine q_pcallVI C dX8_earliestStart_155 mv8_236 (cq_X8_isFree w l h _ _ _ _) rfl ⟨by decide, by decide⟩ ⟨rfl, Nat.le_of_ble_eq_true rfl⟩ (fun x11 => ?_)
              refine q_if_ne C dX8_earliestStart_158 (tgt := 164) (by decide) ?_ ?_
              · refine q_iload C dX8_earliestStart_164 rfl ?_
                refine q_istore C dX8_earliestStart_166 (by decide) ?_
                refine q_iincL C dX8_earliestStart_168 rfl (by decide) (fun x12 => ?_)
                refine q_goto C dX8_earliestStart_171 (tgt := 80) (by decide) ?_
                exact ih _ x9 x12 h
              · refine q_goto C dX8_earliestStart_161 (tgt := 168) (by decide) ?_
                refine q_iincL C dX8_earliestStart_168 rfl (by decide) (fun x13 => ?_)
                refine q_goto C dX8_earliestStart_171 (tgt := 80) (by decide) ?_
                exact ih _ i4 x13 h
            · refine q_iload C dX8_earliestStart_143 rfl ?_
              refine q_iload C dX8_earliestStart_145 rfl ?_
              refine q_icmp_ge C dX8_earliestStart_147 (tgt := 168) (by decide) ?_ ?_
              · refine q_iincL C dX8_earliestStart_168 rfl (by decide) (fun x14 => ?_)
                refine q_goto C dX8_earliestStart_171 (tgt := 80) (by decide) ?_
                exact ih _ i4 x14 h
              · refine q_aload_n C dX8_earliestStart_150 rfl ?_
                refine q_iload_n C dX8_earliestStart_151 rfl ?_
                refine q_iload_n C dX8_earliestStart_152 rfl ?_
                refine q_iload C dX8_earliestStart_153 rfl ?_
                refine q_pcallVI C dX8_earliestStart_155 mv8_236 (cq_X8_isFree w l h _ _ _ _) rfl ⟨by decide, by decide⟩ ⟨rfl, Nat.le_of_ble_eq_true rfl⟩ (fun x15 => ?_)
                refine q_if_ne C dX8_earliestStart_158 (tgt := 164) (by decide) ?_ ?_
                · refine q_iload C dX8_earliestStart_164 rfl ?_
                  refine q_istore C dX8_earliestStart_166 (by decide) ?_
                  refine q_iincL C dX8_earliestStart_168 rfl (by decide) (fun x16 => ?_)
                  refine q_goto C dX8_earliestStart_171 (tgt := 80) (by decide) ?_
                  exact ih _ x9 x16 h
                · refine q_goto C dX8_earliestStart_161 (tgt := 168) (by decide) ?_
                  refine q_iincL C dX8_earliestStart_168 rfl (by decide) (fun x17 => ?_)
                  refine q_goto C dX8_earliestStart_171 (tgt := 80) (by decide) ?_
                  exact ih _ i4 x17 h
        · refine q_iload_n C dX8_earliestStart_104 rfl ?_
          refine q_goto C dX8_earliestStart_105 (tgt := 129) (by decide) ?_
          refine q_istore C dX8_earliestStart_129 (by decide) ?_
          refine q_iload C dX8_earliestStart_131 rfl ?_
          refine q_iload_n C dX8_earliestStart_133 rfl ?_
          refine q_icmp_lt C dX8_earliestStart_134 (tgt := 168) (by decide) ?_ ?_
          · refine q_iincL C dX8_earliestStart_168 rfl (by decide) (fun x18 => ?_)
            refine q_goto C dX8_earliestStart_171 (tgt := 80) (by decide) ?_
            exact ih _ i4 x18 h
          · refine q_iload C dX8_earliestStart_137 rfl ?_
            refine q_iconst C dX8_earliestStart_139 rfl ?_
            refine q_icmp_eq C dX8_earliestStart_140 (tgt := 150) (by decide) ?_ ?_
            · refine q_aload_n C dX8_earliestStart_150 rfl ?_
              refine q_iload_n C dX8_earliestStart_151 rfl ?_
              refine q_iload_n C dX8_earliestStart_152 rfl ?_
              refine q_iload C dX8_earliestStart_153 rfl ?_
              refine q_pcallVI C dX8_earliestStart_155 mv8_236 (cq_X8_isFree w l h _ _ _ _) rfl ⟨by decide, by decide⟩ ⟨rfl, Nat.le_of_ble_eq_true rfl⟩ (fun x19 => ?_)
              refine q_if_ne C dX8_earliestStart_158 (tgt := 164) (by decide) ?_ ?_
              · refine q_iload C dX8_earliestStart_164 rfl ?_
                refine q_istore C dX8_earliestStart_166 (by decide) ?_
                refine q_iincL C dX8_earliestStart_168 rfl (by decide) (fun x20 => ?_)
                refine q_goto C dX8_earliestStart_171 (tgt := 80) (by decide) ?_
                exact ih _ i3 x20 h
              · refine q_goto C dX8_earliestStart_161 (tgt := 168) (by decide) ?_
                refine q_iincL C dX8_earliestStart_168 rfl (by decide) (fun x21 => ?_)
                refine q_goto C dX8_earliestStart_171 (tgt := 80) (by decide) ?_
                exact ih _ i4 x21 h
            · refine q_iload C dX8_earliestStart_143 rfl ?_
              refine q_iload C dX8_earliestStart_145 rfl ?_
              refine q_icmp_ge C dX8_earliestStart_147 (tgt := 168) (by decide) ?_ ?_
              · refine q_iincL C dX8_earliestStart_168 rfl (by decide) (fun x22 => ?_)
                refine q_goto C dX8_earliestStart_171 (tgt := 80) (by decide) ?_
                exact ih _ i4 x22 h
              · refine q_aload_n C dX8_earliestStart_150 rfl ?_
                refine q_iload_n C dX8_earliestStart_151 rfl ?_
                refine q_iload_n C dX8_earliestStart_152 rfl ?_
                refine q_iload C dX8_earliestStart_153 rfl ?_
                refine q_pcallVI C dX8_earliestStart_155 mv8_236 (cq_X8_isFree w l h _ _ _ _) rfl ⟨by decide, by decide⟩ ⟨rfl, Nat.le_of_ble_eq_true rfl⟩ (fun x23 => ?_)
                refine q_if_ne C dX8_earliestStart_158 (tgt := 164) (by decide) ?_ ?_
                · refine q_iload C dX8_earliestStart_164 rfl ?_
                  refine q_istore C dX8_earliestStart_166 (by decide) ?_
                  refine q_iincL C dX8_earliestStart_168 rfl (by decide) (fun x24 => ?_)
                  refine q_goto C dX8_earliestStart_171 (tgt := 80) (by decide) ?_
                  exact ih _ i3 x24 h
                · refine q_goto C dX8_earliestStart_161 (tgt := 168) (by decide) ?_
                  refine q_iincL C dX8_earliestStart_168 rfl (by decide) (fun x25 => ?_)
                  refine q_goto C dX8_earliestStart_171 (tgt := 80) (by decide) ?_
                  exact ih _ i4 x25 h
  unfold q_X8_earliestStart
  refine q_aload_n C dX8_earliestStart_0 rfl ?_
  refine q_aload_n C dX8_earliestStart_1 rfl ?_
  refine q_iload_n C dX8_earliestStart_2 rfl ?_
  refine q_pcallVI C dX8_earliestStart_3 mv8_197 (cq_X8_isCall w l h _ _) rfl ⟨by decide, by decide⟩ ⟨rfl, Nat.le_of_ble_eq_true rfl⟩ (fun x1 => ?_)
  refine q_if_eq C dX8_earliestStart_6 (tgt := 21) (by decide) ?_ ?_
  · refine q_iconst C dX8_earliestStart_21 rfl ?_
    refine q_callVI C dX8_earliestStart_22 mv8_181 (cq_X8_checks w l h _ _) rfl ⟨by decide, by decide⟩ ⟨rfl, Nat.le_of_ble_eq_true rfl⟩ (fun x2 h3 => ?_)
    refine q_if_ne C dX8_earliestStart_25 (tgt := 30) (by decide) ?_ ?_
    · refine q_aload_n C dX8_earliestStart_30 rfl ?_
      refine q_iload_n C dX8_earliestStart_31 rfl ?_
      refine q_iconst C dX8_earliestStart_32 rfl ?_
      refine q_pcallVI C dX8_earliestStart_33 mv8_200 (cq_X8_of w l h3 _ _ _) rfl ⟨by decide, by decide⟩ ⟨rfl, Nat.le_of_ble_eq_true rfl⟩ (fun x4 => ?_)
      refine q_if_eq C dX8_earliestStart_36 (tgt := 41) (by decide) ?_ ?_
      · refine q_aload_n C dX8_earliestStart_41 rfl ?_
        refine q_iconst C dX8_earliestStart_42 rfl ?_
        refine q_callVU C dX8_earliestStart_43 mv8_248 (cq_X8_laysBursts w l h3 _ _) rfl ⟨by decide, by decide⟩ ⟨rfl, Nat.le_of_ble_eq_true rfl⟩ (fun _ h5 => ?_)
        refine q_aload_n C dX8_earliestStart_46 rfl ?_
        refine q_getR C dX8_earliestStart_47 fl8_19 rfl ?_
        refine q_iconst C dX8_earliestStart_50 rfl ?_
        refine q_ialdN (j := 3) C dX8_earliestStart_51 ⟨by decide, by decide, rfl⟩ rfl (by decide) ?_
        refine q_aload_n C dX8_earliestStart_52 rfl ?_
        refine q_getR C dX8_earliestStart_53 fl8_19 rfl ?_
        refine q_iconst C dX8_earliestStart_56 rfl ?_
        refine q_ialdN (j := 2) C dX8_earliestStart_57 ⟨by decide, by decide, rfl⟩ rfl (by decide) ?_
        refine q_iadd C dX8_earliestStart_58 ?_
        refine q_istore_nL C dX8_earliestStart_59 (by decide) (fun x6 => ?_)
        refine q_aload_n C dX8_earliestStart_60 rfl ?_
        refine q_iload_n C dX8_earliestStart_61 rfl ?_
        refine q_iload_n C dX8_earliestStart_62 rfl ?_
        refine q_iload_n C dX8_earliestStart_63 rfl ?_
        refine q_pcallVI C dX8_earliestStart_64 mv8_236 (cq_X8_isFree w l h5 _ _ _ _) rfl ⟨by decide, by decide⟩ ⟨rfl, Nat.le_of_ble_eq_true rfl⟩ (fun x7 => ?_)
        refine q_if_eq C dX8_earliestStart_67 (tgt := 74) (by decide) ?_ ?_
        · refine q_iconst C dX8_earliestStart_74 rfl ?_
          refine q_istore C dX8_earliestStart_75 (by decide) ?_
          refine q_iconst C dX8_earliestStart_77 rfl ?_
          refine q_istore C dX8_earliestStart_78 (by decide) ?_
          refine L80 a_0 x_1 x_2 x6 _ ?_ zF _ ((-1)) 0 h5
          intro u29 x26 x27 h28
          refine q_iload C dX8_earliestStart_174 rfl ?_
          exact q_iret C Z1 Z2 dX8_earliestStart_176
        · refine q_iload_n C dX8_earliestStart_70 rfl ?_
          refine q_goto C dX8_earliestStart_71 (tgt := 75) (by decide) ?_
          refine q_istore C dX8_earliestStart_75 (by decide) ?_
          refine q_iconst C dX8_earliestStart_77 rfl ?_
          refine q_istore C dX8_earliestStart_78 (by decide) ?_
          refine L80 a_0 x_1 x_2 x6 _ ?_ zF _ x6 0 h5
          intro u33 x30 x31 h32
          refine q_iload C dX8_earliestStart_174 rfl ?_
          exact q_iret C Z1 Z2 dX8_earliestStart_176
      · refine q_iconst C dX8_earliestStart_39 rfl ?_
        exact q_iret C Z1 Z2 dX8_earliestStart_40
    · refine q_iconst C dX8_earliestStart_28 rfl ?_
      exact q_iret C Z1 Z2 dX8_earliestStart_29
  · refine q_aload_n C dX8_earliestStart_9 rfl ?_
    refine q_iload_n C dX8_earliestStart_10 rfl ?_
    refine q_pcallVI C dX8_earliestStart_11 mv8_254 (cq_X8_isCarrier w l h _ _) rfl ⟨by decide, by decide⟩ ⟨rfl, Nat.le_of_ble_eq_true rfl⟩ (fun x34 => ?_)
    refine q_if_eq C dX8_earliestStart_14 (tgt := 21) (by decide) ?_ ?_
    · refine q_iconst C dX8_earliestStart_21 rfl ?_
      refine q_callVI C dX8_earliestStart_22 mv8_181 (cq_X8_checks w l h _ _) rfl ⟨by decide, by decide⟩ ⟨rfl, Nat.le_of_ble_eq_true rfl⟩ (fun x35 h36 => ?_)
      refine q_if_ne C dX8_earliestStart_25 (tgt := 30) (by decide) ?_ ?_
      · refine q_aload_n C dX8_earliestStart_30 rfl ?_
        refine q_iload_n C dX8_earliestStart_31 rfl ?_
        refine q_iconst C dX8_earliestStart_32 rfl ?_
        refine q_pcallVI C dX8_earliestStart_33 mv8_200 (cq_X8_of w l h36 _ _ _) rfl ⟨by decide, by decide⟩ ⟨rfl, Nat.le_of_ble_eq_true rfl⟩ (fun x37 => ?_)
        refine q_if_eq C dX8_earliestStart_36 (tgt := 41) (by decide) ?_ ?_
        · refine q_aload_n C dX8_earliestStart_41 rfl ?_
          refine q_iconst C dX8_earliestStart_42 rfl ?_
          refine q_callVU C dX8_earliestStart_43 mv8_248 (cq_X8_laysBursts w l h36 _ _) rfl ⟨by decide, by decide⟩ ⟨rfl, Nat.le_of_ble_eq_true rfl⟩ (fun _ h38 => ?_)
          refine q_aload_n C dX8_earliestStart_46 rfl ?_
          refine q_getR C dX8_earliestStart_47 fl8_19 rfl ?_
          refine q_iconst C dX8_earliestStart_50 rfl ?_
          refine q_ialdN (j := 3) C dX8_earliestStart_51 ⟨by decide, by decide, rfl⟩ rfl (by decide) ?_
          refine q_aload_n C dX8_earliestStart_52 rfl ?_
          refine q_getR C dX8_earliestStart_53 fl8_19 rfl ?_
          refine q_iconst C dX8_earliestStart_56 rfl ?_
          refine q_ialdN (j := 2) C dX8_earliestStart_57 ⟨by decide, by decide, rfl⟩ rfl (by decide) ?_
          refine q_iadd C dX8_earliestStart_58 ?_
          refine q_istore_nL C dX8_earliestStart_59 (by decide) (fun x39 => ?_)
          refine q_aload_n C dX8_earliestStart_60 rfl ?_
          refine q_iload_n C dX8_earliestStart_61 rfl ?_
          refine q_iload_n C dX8_earliestStart_62 rfl ?_
          refine q_iload_n C dX8_earliestStart_63 rfl ?_
          refine q_pcallVI C dX8_earliestStart_64 mv8_236 (cq_X8_isFree w l h38 _ _ _ _) rfl ⟨by decide, by decide⟩ ⟨rfl, Nat.le_of_ble_eq_true rfl⟩ (fun x40 => ?_)
          refine q_if_eq C dX8_earliestStart_67 (tgt := 74) (by decide) ?_ ?_
          · refine q_iconst C dX8_earliestStart_74 rfl ?_
            refine q_istore C dX8_earliestStart_75 (by decide) ?_
            refine q_iconst C dX8_earliestStart_77 rfl ?_
            refine q_istore C dX8_earliestStart_78 (by decide) ?_
            refine L80 a_0 x_1 x_2 x39 _ ?_ zF _ ((-1)) 0 h38
            intro u44 x41 x42 h43
            refine q_iload C dX8_earliestStart_174 rfl ?_
            exact q_iret C Z1 Z2 dX8_earliestStart_176
          · refine q_iload_n C dX8_earliestStart_70 rfl ?_
            refine q_goto C dX8_earliestStart_71 (tgt := 75) (by decide) ?_
            refine q_istore C dX8_earliestStart_75 (by decide) ?_
            refine q_iconst C dX8_earliestStart_77 rfl ?_
            refine q_istore C dX8_earliestStart_78 (by decide) ?_
            refine L80 a_0 x_1 x_2 x39 _ ?_ zF _ x39 0 h38
            intro u48 x45 x46 h47
            refine q_iload C dX8_earliestStart_174 rfl ?_
            exact q_iret C Z1 Z2 dX8_earliestStart_176
        · refine q_iconst C dX8_earliestStart_39 rfl ?_
          exact q_iret C Z1 Z2 dX8_earliestStart_40
      · refine q_iconst C dX8_earliestStart_28 rfl ?_
        exact q_iret C Z1 Z2 dX8_earliestStart_29
    · refine q_iconst C dX8_earliestStart_17 rfl ?_
      refine q_goto C dX8_earliestStart_18 (tgt := 22) (by decide) ?_
      refine q_callVI C dX8_earliestStart_22 mv8_181 (cq_X8_checks w l h _ _) rfl ⟨by decide, by decide⟩ ⟨rfl, Nat.le_of_ble_eq_true rfl⟩ (fun x49 h50 => ?_)
      refine q_if_ne C dX8_earliestStart_25 (tgt := 30) (by decide) ?_ ?_
      · refine q_aload_n C dX8_earliestStart_30 rfl ?_
        refine q_iload_n C dX8_earliestStart_31 rfl ?_
        refine q_iconst C dX8_earliestStart_32 rfl ?_
        refine q_pcallVI C dX8_earliestStart_33 mv8_200 (cq_X8_of w l h50 _ _ _) rfl ⟨by decide, by decide⟩ ⟨rfl, Nat.le_of_ble_eq_true rfl⟩ (fun x51 => ?_)
        refine q_if_eq C dX8_earliestStart_36 (tgt := 41) (by decide) ?_ ?_
        · refine q_aload_n C dX8_earliestStart_41 rfl ?_
          refine q_iconst C dX8_earliestStart_42 rfl ?_
          refine q_callVU C dX8_earliestStart_43 mv8_248 (cq_X8_laysBursts w l h50 _ _) rfl ⟨by decide, by decide⟩ ⟨rfl, Nat.le_of_ble_eq_true rfl⟩ (fun _ h52 => ?_)
          refine q_aload_n C dX8_earliestStart_46 rfl ?_
          refine q_getR C dX8_earliestStart_47 fl8_19 rfl ?_
          refine q_iconst C dX8_earliestStart_50 rfl ?_
          refine q_ialdN (j := 3) C dX8_earliestStart_51 ⟨by decide, by decide, rfl⟩ rfl (by decide) ?_
          refine q_aload_n C dX8_earliestStart_52 rfl ?_
          refine q_getR C dX8_earliestStart_53 fl8_19 rfl ?_
          refine q_iconst C dX8_earliestStart_56 rfl ?_
          refine q_ialdN (j := 2) C dX8_earliestStart_57 ⟨by decide, by decide, rfl⟩ rfl (by decide) ?_
          refine q_iadd C dX8_earliestStart_58 ?_
          refine q_istore_nL C dX8_earliestStart_59 (by decide) (fun x53 => ?_)
          refine q_aload_n C dX8_earliestStart_60 rfl ?_
          refine q_iload_n C dX8_earliestStart_61 rfl ?_
          refine q_iload_n C dX8_earliestStart_62 rfl ?_
          refine q_iload_n C dX8_earliestStart_63 rfl ?_
          refine q_pcallVI C dX8_earliestStart_64 mv8_236 (cq_X8_isFree w l h52 _ _ _ _) rfl ⟨by decide, by decide⟩ ⟨rfl, Nat.le_of_ble_eq_true rfl⟩ (fun x54 => ?_)
          refine q_if_eq C dX8_earliestStart_67 (tgt := 74) (by decide) ?_ ?_
          · refine q_iconst C dX8_earliestStart_74 rfl ?_
            refine q_istore C dX8_earliestStart_75 (by decide) ?_
            refine q_iconst C dX8_earliestStart_77 rfl ?_
            refine q_istore C dX8_earliestStart_78 (by decide) ?_
            refine L80 a_0 x_1 x_2 x53 _ ?_ zF _ ((-1)) 0 h52
            intro u58 x55 x56 h57
            refine q_iload C dX8_earliestStart_174 rfl ?_
            exact q_iret C Z1 Z2 dX8_earliestStart_176
          · refine q_iload_n C dX8_earliestStart_70 rfl ?_
            refine q_goto C dX8_earliestStart_71 (tgt := 75) (by decide) ?_
            refine q_istore C dX8_earliestStart_75 (by decide) ?_
            refine q_iconst C dX8_earliestStart_77 rfl ?_
            refine q_istore C dX8_earliestStart_78 (by decide) ?_
            refine L80 a_0 x_1 x_2 x53 _ ?_ zF _ x53 0 h52
            intro u62 x59 x60 h61
            refine q_iload C dX8_earliestStart_174 rfl ?_
            exact q_iret C Z1 Z2 dX8_earliestStart_176
        · refine q_iconst C dX8_earliestStart_39 rfl ?_
          exact q_iret C Z1 Z2 dX8_earliestStart_40
      · refine q_iconst C dX8_earliestStart_28 rfl ?_
        exact q_iret C Z1 Z2 dX8_earliestStart_29
def q_X8_conflicts_L18 (a0 : Nat) (i1 : Int) (k : Int → Int → zH → Option (Int × zH)) : Nat → Int → Int → zH → Option (Int × zH)
  | 0, _, _, _ => none
  | n + 1, i2, i3, h => if h.1 (h.2 a0 5) 404 ≤ i3 then (k i2 i3 h) else (if i3 = i1 then (zlet (zw (i3 + 1)) (fun x4 => q_X8_conflicts_L18 a0 i1 k n i2 x4 h)) else (zbp (q_X8_isActive h a0 i3) (fun x5 => if x5 = 0 then (zlet (zw (i3 + 1)) (fun x6 => q_X8_conflicts_L18 a0 i1 k n i2 x6 h)) else (zbp (q_X8_isActive h a0 i1) (fun x7 => if x7 = 0 then (zlet (zw (i3 + 1)) (fun x22 => q_X8_conflicts_L18 a0 i1 k n i2 x22 h)) else (zbp (q_X8_of h a0 i3 6) (fun x8 => zbp (q_X8_of h a0 i1 6) (fun x9 => if x8 = x9 then (if (1 : Int) = 0 then (none) else (zlet (zor i2 (zshl 1 i3)) (fun x10 => zlet (zw (i3 + 1)) (fun x11 => q_X8_conflicts_L18 a0 i1 k n x10 x11 h)))) else (zbp (q_X8_of h a0 i3 0) (fun x12 => zbp (q_X8_of h a0 i1 0) (fun x13 => if x12 = x13 then (if (1 : Int) = 0 then (none) else (zlet (zor i2 (zshl 1 i3)) (fun x14 => zlet (zw (i3 + 1)) (fun x15 => q_X8_conflicts_L18 a0 i1 k n x14 x15 h)))) else (zbp (q_X8_of h a0 i3 1) (fun x16 => zbp (q_X8_of h a0 i1 1) (fun x17 => if x16 = x17 then (if (1 : Int) = 0 then (none) else (zlet (zor i2 (zshl 1 i3)) (fun x20 => zlet (zw (i3 + 1)) (fun x21 => q_X8_conflicts_L18 a0 i1 k n x20 x21 h)))) else (if (0 : Int) = 0 then (zlet (zor i2 0) (fun x18 => zlet (zw (i3 + 1)) (fun x19 => q_X8_conflicts_L18 a0 i1 k n x18 x19 h))) else (none))))))))))))))))
def q_X8_conflicts (h : zH) (a_0 : Nat) (x_1 : Int) : Option (Int × zH) := zbp (q_X8_isCall h a_0 x_1) (fun x1 => zbd (q_X8_checks h a_0 x1) (fun x2 h3 => if x2 = 0 then (some (0, h3)) else (q_X8_conflicts_L18 a_0 x_1 (fun x23 x24 h25 => some (x23, h25)) zF 0 0 h3)))
theorem cq_X8_conflicts (w : zW) (l : Launch) (h : zH) (a_0 : Nat) (x_1 : Int) : zCq w l yX8_conflicts cX8_conflicts 5 (some .int) 2 43 [.inr (8, a_0), .inl x_1] h qI (q_X8_conflicts h a_0 x_1) := by
  refine zCq.of (own := RX8) (loc := [some (.inr (8, a_0)), some (.inl x_1), none, none, none]) (by decide) rfl (Nat.le_of_ble_eq_true rfl) (fun k v hk => ?_) ?_
  · exact zloc_ok 3 rfl hk
  intro p e s m args below meth c C Z1 Z2
  have L18 : ∀ (a0 : Nat) (i1 : Int) (k : Int → Int → zH → Option (Int × zH)) (hk : ∀ (u4 : Option zv) (i2 : Int) (i3 : Int) (h : zH), zQV w p l e (zRm 2 43) s m args below meth c 5 qI (k i2 i3 h) 129 [some (.inr (8, a0)), some (.inl i1), some (.inl i2), some (.inl i3), u4] [] h) (n : Nat) (u4 : Option zv) (i2 : Int) (i3 : Int) (h : zH), zQV w p l e (zRm 2 43) s m args below meth c 5 qI (q_X8_conflicts_L18 a0 i1 k n i2 i3 h) 18 [some (.inr (8, a0)), some (.inl i1), some (.inl i2), some (.inl i3), u4] [] h := by
    intro a0 i1 k hk n
    induction n with
    | zero =>
      intro u4 i2 i3 h
      exact q_none
    | succ n ih =>
      intro u4 i2 i3 h
      rw [q_X8_conflicts_L18]
      refine q_iload_n C dX8_conflicts_18 rfl ?_
      refine q_aload_n C dX8_conflicts_19 rfl ?_
      refine q_getR C dX8_conflicts_20 fl8_19 rfl ?_
      refine q_sipush C dX8_conflicts_23 (by decide) rfl ?_
      refine q_ialdN (j := 404) C dX8_conflicts_26 ⟨by decide, by decide, rfl⟩ rfl (by decide) ?_
      refine q_icmp_ge C dX8_conflicts_27 (tgt := 129) (by decide) ?_ ?_
      · exact hk _ i2 i3 h
      · refine q_iload_n C dX8_conflicts_30 rfl ?_
        refine q_iload_n C dX8_conflicts_31 rfl ?_
        refine q_icmp_eq C dX8_conflicts_32 (tgt := 123) (by decide) ?_ ?_
        · refine q_iincL C dX8_conflicts_123 rfl (by decide) (fun x4 => ?_)
          refine q_goto C dX8_conflicts_126 (tgt := 18) (by decide) ?_
          exact ih _ i2 x4 h
        · refine q_aload_n C dX8_conflicts_35 rfl ?_
          refine q_iload_n C dX8_conflicts_36 rfl ?_
          refine q_pcallVI C dX8_conflicts_37 mv8_203 (cq_X8_isActive w l h _ _) rfl ⟨by decide, by decide⟩ ⟨rfl, Nat.le_of_ble_eq_true rfl⟩ (fun x5 => ?_)
          refine q_if_eq C dX8_conflicts_40 (tgt := 123) (by decide) ?_ ?_
          · refine q_iincL C dX8_conflicts_123 rfl (by decide) (fun x6 => ?_)
            refine q_goto C dX8_conflicts_126 (tgt := 18) (by decide) ?_
            exact ih _ i2 x6 h
          · refine q_aload_n C dX8_conflicts_43 rfl ?_
            refine q_iload_n C dX8_conflicts_44 rfl ?_
            refine q_pcallVI C dX8_conflicts_45 mv8_203 (cq_X8_isActive w l h _ _) rfl ⟨by decide, by decide⟩ ⟨rfl, Nat.le_of_ble_eq_true rfl⟩ (fun x7 => ?_)
            refine q_if_ne C dX8_conflicts_48 (tgt := 54) (by decide) ?_ ?_
            · refine q_aload_n C dX8_conflicts_54 rfl ?_
              refine q_iload_n C dX8_conflicts_55 rfl ?_
              refine q_bipush C dX8_conflicts_56 (by decide) rfl ?_
              refine q_pcallVI C dX8_conflicts_58 mv8_200 (cq_X8_of w l h _ _ _) rfl ⟨by decide, by decide⟩ ⟨rfl, Nat.le_of_ble_eq_true rfl⟩ (fun x8 => ?_)
              refine q_aload_n C dX8_conflicts_61 rfl ?_
              refine q_iload_n C dX8_conflicts_62 rfl ?_
              refine q_bipush C dX8_conflicts_63 (by decide) rfl ?_
              refine q_pcallVI C dX8_conflicts_65 mv8_200 (cq_X8_of w l h _ _ _) rfl ⟨by decide, by decide⟩ ⟨rfl, Nat.le_of_ble_eq_true rfl⟩ (fun x9 => ?_)
              refine q_icmp_eq C dX8_conflicts_68 (tgt := 101) (by decide) ?_ ?_
              · refine q_iconst C dX8_conflicts_101 rfl ?_
                refine q_goto C dX8_conflicts_102 (tgt := 106) (by decide) ?_
                refine q_istore C dX8_conflicts_106 (by decide) ?_
                refine q_iload_n C dX8_conflicts_108 rfl ?_
                refine q_iload C dX8_conflicts_109 rfl ?_
                refine q_if_eq C dX8_conflicts_111 (tgt := 120) (by decide) ?_ ?_
                · exact q_none
                · refine q_iconst C dX8_conflicts_114 rfl ?_
                  refine q_iload_n C dX8_conflicts_115 rfl ?_
                  refine q_ishl C dX8_conflicts_116 ?_
                  refine q_goto C dX8_conflicts_117 (tgt := 121) (by decide) ?_
                  refine q_ior C dX8_conflicts_121 ?_
                  refine q_istore_nL C dX8_conflicts_122 (by decide) (fun x10 => ?_)
                  refine q_iincL C dX8_conflicts_123 rfl (by decide) (fun x11 => ?_)
                  refine q_goto C dX8_conflicts_126 (tgt := 18) (by decide) ?_
                  exact ih _ x10 x11 h
              · refine q_aload_n C dX8_conflicts_71 rfl ?_
                refine q_iload_n C dX8_conflicts_72 rfl ?_
                refine q_iconst C dX8_conflicts_73 rfl ?_
                refine q_pcallVI C dX8_conflicts_74 mv8_200 (cq_X8_of w l h _ _ _) rfl ⟨by decide, by decide⟩ ⟨rfl, Nat.le_of_ble_eq_true rfl⟩ (fun x12 => ?_)
                refine q_aload_n C dX8_conflicts_77 rfl ?_
                refine q_iload_n C dX8_conflicts_78 rfl ?_
                refine q_iconst C dX8_conflicts_79 rfl ?_
                refine q_pcallVI C dX8_conflicts_80 mv8_200 (cq_X8_of w l h _ _ _) rfl ⟨by decide, by decide⟩ ⟨rfl, Nat.le_of_ble_eq_true rfl⟩ (fun x13 => ?_)
                refine q_icmp_eq C dX8_conflicts_83 (tgt := 101) (by decide) ?_ ?_
                · refine q_iconst C dX8_conflicts_101 rfl ?_
                  refine q_goto C dX8_conflicts_102 (tgt := 106) (by decide) ?_
                  refine q_istore C dX8_conflicts_106 (by decide) ?_
                  refine q_iload_n C dX8_conflicts_108 rfl ?_
                  refine q_iload C dX8_conflicts_109 rfl ?_
                  refine q_if_eq C dX8_conflicts_111 (tgt := 120) (by decide) ?_ ?_
                  · exact q_none
                  · refine q_iconst C dX8_conflicts_114 rfl ?_
                    refine q_iload_n C dX8_conflicts_115 rfl ?_
                    refine q_ishl C dX8_conflicts_116 ?_
                    refine q_goto C dX8_conflicts_117 (tgt := 121) (by decide) ?_
                    refine q_ior C dX8_conflicts_121 ?_
                    refine q_istore_nL C dX8_conflicts_122 (by decide) (fun x14 => ?_)
                    refine q_iincL C dX8_conflicts_123 rfl (by decide) (fun x15 => ?_)
                    refine q_goto C dX8_conflicts_126 (tgt := 18) (by decide) ?_
                    exact ih _ x14 x15 h
                · refine q_aload_n C dX8_conflicts_86 rfl ?_
                  refine q_iload_n C dX8_conflicts_87 rfl ?_
                  refine q_iconst C dX8_conflicts_88 rfl ?_
                  refine q_pcallVI C dX8_conflicts_89 mv8_200 (cq_X8_of w l h _ _ _) rfl ⟨by decide, by decide⟩ ⟨rfl, Nat.le_of_ble_eq_true rfl⟩ (fun x16 => ?_)
                  refine q_aload_n C dX8_conflicts_92 rfl ?_
                  refine q_iload_n C dX8_conflicts_93 rfl ?_
                  refine q_iconst C dX8_conflicts_94 rfl ?_
                  refine q_pcallVI C dX8_conflicts_95 mv8_200 (cq_X8_of w l h _ _ _) rfl ⟨by decide, by decide⟩ ⟨rfl, Nat.le_of_ble_eq_true rfl⟩ (fun x17 => ?_)
                  refine q_icmp_ne C dX8_conflicts_98 (tgt := 105) (by decide) ?_ ?_
                  · refine q_iconst C dX8_conflicts_105 rfl ?_
                    refine q_istore C dX8_conflicts_106 (by decide) ?_
                    refine q_iload_n C dX8_conflicts_108 rfl ?_
                    refine q_iload C dX8_conflicts_109 rfl ?_
                    refine q_if_eq C dX8_conflicts_111 (tgt := 120) (by decide) ?_ ?_
                    · refine q_iconst C dX8_conflicts_120 rfl ?_
                      refine q_ior C dX8_conflicts_121 ?_
                      refine q_istore_nL C dX8_conflicts_122 (by decide) (fun x18 => ?_)
                      refine q_iincL C dX8_conflicts_123 rfl (by decide) (fun x19 => ?_)
                      refine q_goto C dX8_conflicts_126 (tgt := 18) (by decide) ?_
                      exact ih _ x18 x19 h
                    · exact q_none
                  · refine q_iconst C dX8_conflicts_101 rfl ?_
                    refine q_goto C dX8_conflicts_102 (tgt := 106) (by decide) ?_
                    refine q_istore C dX8_conflicts_106 (by decide) ?_
                    refine q_iload_n C dX8_conflicts_108 rfl ?_
                    refine q_iload C dX8_conflicts_109 rfl ?_
                    refine q_if_eq C dX8_conflicts_111 (tgt := 120) (by decide) ?_ ?_
                    · exact q_none
                    · refine q_iconst C dX8_conflicts_114 rfl ?_
                      refine q_iload_n C dX8_conflicts_115 rfl ?_
                      refine q_ishl C dX8_conflicts_116 ?_
                      refine q_goto C dX8_conflicts_117 (tgt := 121) (by decide) ?_
                      refine q_ior C dX8_conflicts_121 ?_
                      refine q_istore_nL C dX8_conflicts_122 (by decide) (fun x20 => ?_)
                      refine q_iincL C dX8_conflicts_123 rfl (by decide) (fun x21 => ?_)
                      refine q_goto C dX8_conflicts_126 (tgt := 18) (by decide) ?_
                      exact ih _ x20 x21 h
            · refine q_goto C dX8_conflicts_51 (tgt := 123) (by decide) ?_
              refine q_iincL C dX8_conflicts_123 rfl (by decide) (fun x22 => ?_)
              refine q_goto C dX8_conflicts_126 (tgt := 18) (by decide) ?_
              exact ih _ i2 x22 h
  unfold q_X8_conflicts
  refine q_aload_n C dX8_conflicts_0 rfl ?_
  refine q_aload_n C dX8_conflicts_1 rfl ?_
  refine q_iload_n C dX8_conflicts_2 rfl ?_
  refine q_pcallVI C dX8_conflicts_3 mv8_197 (cq_X8_isCall w l h _ _) rfl ⟨by decide, by decide⟩ ⟨rfl, Nat.le_of_ble_eq_true rfl⟩ (fun x1 => ?_)
  refine q_callVI C dX8_conflicts_6 mv8_181 (cq_X8_checks w l h _ _) rfl ⟨by decide, by decide⟩ ⟨rfl, Nat.le_of_ble_eq_true rfl⟩ (fun x2 h3 => ?_)
  refine q_if_ne C dX8_conflicts_9 (tgt := 14) (by decide) ?_ ?_
  · refine q_iconst C dX8_conflicts_14 rfl ?_
    refine q_istore_n C dX8_conflicts_15 (by decide) ?_
    refine q_iconst C dX8_conflicts_16 rfl ?_
    refine q_istore_n C dX8_conflicts_17 (by decide) ?_
    refine L18 a_0 x_1 _ ?_ zF _ 0 0 h3
    intro u26 x23 x24 h25
    refine q_iload_n C dX8_conflicts_129 rfl ?_
    exact q_iret C Z1 Z2 dX8_conflicts_130
  · refine q_iconst C dX8_conflicts_12 rfl ?_
    exact q_iret C Z1 Z2 dX8_conflicts_13
def q_X8_busiestStation_L28 (a0 : Nat) (i1 : Int) (i2 : Int) (i3 : Int) (k : Int → Int → zH → Option (Int × zH)) : Nat → Int → Int → zH → Option (Int × zH)
  | 0, _, _, _ => none
  | n + 1, i4, i5, h => if h.1 (h.2 a0 5) 404 ≤ i5 then (k i4 i5 h) else (zbp (q_X8_isActive h a0 i5) (fun x2 => if x2 = 0 then (zlet (zw (i4 + 0)) (fun x3 => zlet (zw (i5 + 1)) (fun x4 => q_X8_busiestStation_L28 a0 i1 i2 i3 k n x3 x4 h))) else (zbp (q_X8_of h a0 i5 0) (fun x5 => if x5 = i3 then (zlet (zw (i4 + 1)) (fun x6 => zlet (zw (i5 + 1)) (fun x7 => q_X8_busiestStation_L28 a0 i1 i2 i3 k n x6 x7 h))) else (zbp (q_X8_of h a0 i5 1) (fun x8 => if x8 = i3 then (zlet (zw (i4 + 1)) (fun x11 => zlet (zw (i5 + 1)) (fun x12 => q_X8_busiestStation_L28 a0 i1 i2 i3 k n x11 x12 h))) else (zlet (zw (i4 + 0)) (fun x9 => zlet (zw (i5 + 1)) (fun x10 => q_X8_busiestStation_L28 a0 i1 i2 i3 k n x9 x10 h)))))))))
def q_X8_busiestStation_L11 (a0 : Nat) (k : Int → Int → Int → zH → Option (Int × zH)) : Nat → Int → Int → Int → zH → Option (Int × zH)
  | 0, _, _, _, _ => none
  | n + 1, i1, i2, i3, h => if h.1 (h.2 a0 3) 62 ≤ i3 then (k i1 i2 i3 h) else (q_X8_busiestStation_L28 a0 i1 i2 i3 (fun x13 x14 h15 => if i2 < x13 then (zlet (zw (i3 + 1)) (fun x16 => q_X8_busiestStation_L11 a0 k n i3 x13 x16 h15)) else (zlet (zw (i3 + 1)) (fun x17 => q_X8_busiestStation_L11 a0 k n i1 i2 x17 h15))) zF 0 0 h)
def q_X8_busiestStation (h : zH) (a_0 : Nat) : Option (Int × zH) := zlet (zput h a_0 0 0) (fun h1 => q_X8_busiestStation_L11 a_0 (fun x18 x19 x20 h21 => some (x18, h21)) zF ((-1)) 0 0 h1)
theorem cq_X8_busiestStation (w : zW) (l : Launch) (h : zH) (a_0 : Nat) : zCq w l yX8_busiestStation cX8_busiestStation 6 (some .int) 2 43 [.inr (8, a_0)] h qI (q_X8_busiestStation h a_0) := by
  refine zCq.of (own := RX8) (loc := [some (.inr (8, a_0)), none, none, none, none, none]) (by decide) rfl (Nat.le_of_ble_eq_true rfl) (fun k v hk => ?_) ?_
  · exact zloc_ok 5 rfl hk
  intro p e s m args below meth c C Z1 Z2
  have L28 : ∀ (a0 : Nat) (i1 : Int) (i2 : Int) (i3 : Int) (k : Int → Int → zH → Option (Int × zH)) (hk : ∀ (i4 : Int) (i5 : Int) (h : zH), zQV w p l e (zRm 2 43) s m args below meth c 6 qI (k i4 i5 h) 88 [some (.inr (8, a0)), some (.inl i1), some (.inl i2), some (.inl i3), some (.inl i4), some (.inl i5)] [] h) (n : Nat) (i4 : Int) (i5 : Int) (h : zH), zQV w p l e (zRm 2 43) s m args below meth c 6 qI (q_X8_busiestStation_L28 a0 i1 i2 i3 k n i4 i5 h) 28 [some (.inr (8, a0)), some (.inl i1), some (.inl i2), some (.inl i3), some (.inl i4), some (.inl i5)] [] h := by
    intro a0 i1 i2 i3 k hk n
    induction n with
    | zero =>
      intro i4 i5 h
      exact q_none
    | succ n ih =>
      intro i4 i5 h
      rw [q_X8_busiestStation_L28]
      refine q_iload C dX8_busiestStation_28 rfl ?_
      refine q_aload_n C dX8_busiestStation_30 rfl ?_
      refine q_getR C dX8_busiestStation_31 fl8_19 rfl ?_
      refine q_sipush C dX8_busiestStation_34 (by decide) rfl ?_
      refine q_ialdN (j := 404) C dX8_busiestStation_37 ⟨by decide, by decide, rfl⟩ rfl (by decide) ?_
      refine q_icmp_ge C dX8_busiestStation_38 (tgt := 88) (by decide) ?_ ?_
      · exact hk i4 i5 h
      · refine q_iload C dX8_busiestStation_41 rfl ?_
        refine q_aload_n C dX8_busiestStation_43 rfl ?_
        refine q_iload C dX8_busiestStation_44 rfl ?_
        refine q_pcallVI C dX8_busiestStation_46 mv8_203 (cq_X8_isActive w l h _ _) rfl ⟨by decide, by decide⟩ ⟨rfl, Nat.le_of_ble_eq_true rfl⟩ (fun x2 => ?_)
        refine q_if_eq C dX8_busiestStation_49 (tgt := 78) (by decide) ?_ ?_
        · refine q_iconst C dX8_busiestStation_78 rfl ?_
          refine q_iadd C dX8_busiestStation_79 ?_
          refine q_istoreL C dX8_busiestStation_80 (by decide) (fun x3 => ?_)
          refine q_iincL C dX8_busiestStation_82 rfl (by decide) (fun x4 => ?_)
          refine q_goto C dX8_busiestStation_85 (tgt := 28) (by decide) ?_
          exact ih x3 x4 h
        · refine q_aload_n C dX8_busiestStation_52 rfl ?_
          refine q_iload C dX8_busiestStation_53 rfl ?_
          refine q_iconst C dX8_busiestStation_55 rfl ?_
          refine q_pcallVI C dX8_busiestStation_56 mv8_200 (cq_X8_of w l h _ _ _) rfl ⟨by decide, by decide⟩ ⟨rfl, Nat.le_of_ble_eq_true rfl⟩ (fun x5 => ?_)
          refine q_iload_n C dX8_busiestStation_59 rfl ?_
          refine q_icmp_eq C dX8_busiestStation_60 (tgt := 74) (by decide) ?_ ?_
          · refine q_iconst C dX8_busiestStation_74 rfl ?_
            refine q_goto C dX8_busiestStation_75 (tgt := 79) (by decide) ?_
            refine q_iadd C dX8_busiestStation_79 ?_
            refine q_istoreL C dX8_busiestStation_80 (by decide) (fun x6 => ?_)
            refine q_iincL C dX8_busiestStation_82 rfl (by decide) (fun x7 => ?_)
            refine q_goto C dX8_busiestStation_85 (tgt := 28) (by decide) ?_
            exact ih x6 x7 h
          · refine q_aload_n C dX8_busiestStation_63 rfl ?_
            refine q_iload C dX8_busiestStation_64 rfl ?_
            refine q_iconst C dX8_busiestStation_66 rfl ?_
            refine q_pcallVI C dX8_busiestStation_67 mv8_200 (cq_X8_of w l h _ _ _) rfl ⟨by decide, by decide⟩ ⟨rfl, Nat.le_of_ble_eq_true rfl⟩ (fun x8 => ?_)
            refine q_iload_n C dX8_busiestStation_70 rfl ?_
            refine q_icmp_ne C dX8_busiestStation_71 (tgt := 78) (by decide) ?_ ?_
            · refine q_iconst C dX8_busiestStation_78 rfl ?_
              refine q_iadd C dX8_busiestStation_79 ?_
              refine q_istoreL C dX8_busiestStation_80 (by decide) (fun x9 => ?_)
              refine q_iincL C dX8_busiestStation_82 rfl (by decide) (fun x10 => ?_)
              refine q_goto C dX8_busiestStation_85 (tgt := 28) (by decide) ?_
              exact ih x9 x10 h
            · refine q_iconst C dX8_busiestStation_74 rfl ?_
              refine q_goto C dX8_busiestStation_75 (tgt := 79) (by decide) ?_
              refine q_iadd C dX8_busiestStation_79 ?_
              refine q_istoreL C dX8_busiestStation_80 (by decide) (fun x11 => ?_)
              refine q_iincL C dX8_busiestStation_82 rfl (by decide) (fun x12 => ?_)
              refine q_goto C dX8_busiestStation_85 (tgt := 28) (by decide) ?_
              exact ih x11 x12 h
  have L11 : ∀ (a0 : Nat) (k : Int → Int → Int → zH → Option (Int × zH)) (hk : ∀ (u4 u5 : Option zv) (i1 : Int) (i2 : Int) (i3 : Int) (h : zH), zQV w p l e (zRm 2 43) s m args below meth c 6 qI (k i1 i2 i3 h) 108 [some (.inr (8, a0)), some (.inl i1), some (.inl i2), some (.inl i3), u4, u5] [] h) (n : Nat) (u4 u5 : Option zv) (i1 : Int) (i2 : Int) (i3 : Int) (h : zH), zQV w p l e (zRm 2 43) s m args below meth c 6 qI (q_X8_busiestStation_L11 a0 k n i1 i2 i3 h) 11 [some (.inr (8, a0)), some (.inl i1), some (.inl i2), some (.inl i3), u4, u5] [] h := by
    intro a0 k hk n
    induction n with
    | zero =>
      intro u4 u5 i1 i2 i3 h
      exact q_none
    | succ n ih =>
      intro u4 u5 i1 i2 i3 h
      rw [q_X8_busiestStation_L11]
      refine q_iload_n C dX8_busiestStation_11 rfl ?_
      refine q_aload_n C dX8_busiestStation_12 rfl ?_
      refine q_getR C dX8_busiestStation_13 fl8_13 rfl ?_
      refine q_bipush C dX8_busiestStation_16 (by decide) rfl ?_
      refine q_ialdN (j := 62) C dX8_busiestStation_18 ⟨by decide, by decide, rfl⟩ rfl (by decide) ?_
      refine q_icmp_ge C dX8_busiestStation_19 (tgt := 108) (by decide) ?_ ?_
      · exact hk _ _ i1 i2 i3 h
      · refine q_iconst C dX8_busiestStation_22 rfl ?_
        refine q_istore C dX8_busiestStation_23 (by decide) ?_
        refine q_iconst C dX8_busiestStation_25 rfl ?_
        refine q_istore C dX8_busiestStation_26 (by decide) ?_
        refine L28 a0 i1 i2 i3 _ ?_ zF 0 0 h
        intro x13 x14 h15
        refine q_iload C dX8_busiestStation_88 rfl ?_
        refine q_iload_n C dX8_busiestStation_90 rfl ?_
        refine q_icmp_gt C dX8_busiestStation_91 (tgt := 97) (by decide) ?_ ?_
        · refine q_iload_n C dX8_busiestStation_97 rfl ?_
          refine q_istore_n C dX8_busiestStation_98 (by decide) ?_
          refine q_iload C dX8_busiestStation_99 rfl ?_
          refine q_istore_n C dX8_busiestStation_101 (by decide) ?_
          refine q_iincL C dX8_busiestStation_102 rfl (by decide) (fun x16 => ?_)
          refine q_goto C dX8_busiestStation_105 (tgt := 11) (by decide) ?_
          exact ih _ _ i3 x13 x16 h15
        · refine q_goto C dX8_busiestStation_94 (tgt := 102) (by decide) ?_
          refine q_iincL C dX8_busiestStation_102 rfl (by decide) (fun x17 => ?_)
          refine q_goto C dX8_busiestStation_105 (tgt := 11) (by decide) ?_
          exact ih _ _ i1 i2 x17 h15
  unfold q_X8_busiestStation
  refine q_aload_n C dX8_busiestStation_0 rfl ?_
  refine q_iconst C dX8_busiestStation_1 rfl ?_
  refine q_putI C dX8_busiestStation_2 pl8_47 rfl (fun h1 => ?_)
  refine q_iconst C dX8_busiestStation_5 rfl ?_
  refine q_istore_n C dX8_busiestStation_6 (by decide) ?_
  refine q_iconst C dX8_busiestStation_7 rfl ?_
  refine q_istore_n C dX8_busiestStation_8 (by decide) ?_
  refine q_iconst C dX8_busiestStation_9 rfl ?_
  refine q_istore_n C dX8_busiestStation_10 (by decide) ?_
  refine L11 a_0 _ ?_ zF _ _ ((-1)) 0 0 h1
  intro u22 u23 x18 x19 x20 h21
  refine q_iload_n C dX8_busiestStation_108 rfl ?_
  exact q_iret C Z1 Z2 dX8_busiestStation_109
def q_X8_loadOf_L18 (a0 : Nat) (i1 : Int) (k : Int → Int → zH → Option (Int × zH)) : Nat → Int → Int → zH → Option (Int × zH)
  | 0, _, _, _ => none
  | n + 1, i2, i3, h => if h.1 (h.2 a0 5) 404 ≤ i3 then (k i2 i3 h) else (zbp (q_X8_isActive h a0 i3) (fun x4 => if x4 = 0 then (zlet (zw (i2 + 0)) (fun x5 => zlet (zw (i3 + 1)) (fun x6 => q_X8_loadOf_L18 a0 i1 k n x5 x6 h))) else (zbp (q_X8_of h a0 i3 0) (fun x7 => if x7 = i1 then (zbp (q_X8_burst h a0 i3) (fun x10 => zlet (zw (i2 + x10)) (fun x11 => zlet (zw (i3 + 1)) (fun x12 => q_X8_loadOf_L18 a0 i1 k n x11 x12 h)))) else (zlet (zw (i2 + 0)) (fun x8 => zlet (zw (i3 + 1)) (fun x9 => q_X8_loadOf_L18 a0 i1 k n x8 x9 h)))))))
def q_X8_loadOf (h : zH) (a_0 : Nat) (x_1 : Int) : Option (Int × zH) := zbp (q_X8_isStation h a_0 x_1) (fun x1 => zbd (q_X8_checks h a_0 x1) (fun x2 h3 => if x2 = 0 then (some (0, h3)) else (q_X8_loadOf_L18 a_0 x_1 (fun x13 x14 h15 => some (x13, h15)) zF 0 0 h3)))
theorem cq_X8_loadOf (w : zW) (l : Launch) (h : zH) (a_0 : Nat) (x_1 : Int) : zCq w l yX8_loadOf cX8_loadOf 4 (some .int) 2 43 [.inr (8, a_0), .inl x_1] h qI (q_X8_loadOf h a_0 x_1) := by
  refine zCq.of (own := RX8) (loc := [some (.inr (8, a_0)), some (.inl x_1), none, none]) (by decide) rfl (Nat.le_of_ble_eq_true rfl) (fun k v hk => ?_) ?_
  · exact zloc_ok 2 rfl hk
  intro p e s m args below meth c C Z1 Z2
  have L18 : ∀ (a0 : Nat) (i1 : Int) (k : Int → Int → zH → Option (Int × zH)) (hk : ∀ (i2 : Int) (i3 : Int) (h : zH), zQV w p l e (zRm 2 43) s m args below meth c 4 qI (k i2 i3 h) 66 [some (.inr (8, a0)), some (.inl i1), some (.inl i2), some (.inl i3)] [] h) (n : Nat) (i2 : Int) (i3 : Int) (h : zH), zQV w p l e (zRm 2 43) s m args below meth c 4 qI (q_X8_loadOf_L18 a0 i1 k n i2 i3 h) 18 [some (.inr (8, a0)), some (.inl i1), some (.inl i2), some (.inl i3)] [] h := by
    intro a0 i1 k hk n
    induction n with
    | zero =>
      intro i2 i3 h
      exact q_none
    | succ n ih =>
      intro i2 i3 h
      rw [q_X8_loadOf_L18]
      refine q_iload_n C dX8_loadOf_18 rfl ?_
      refine q_aload_n C dX8_loadOf_19 rfl ?_
      refine q_getR C dX8_loadOf_20 fl8_19 rfl ?_
      refine q_sipush C dX8_loadOf_23 (by decide) rfl ?_
      refine q_ialdN (j := 404) C dX8_loadOf_26 ⟨by decide, by decide, rfl⟩ rfl (by decide) ?_
      refine q_icmp_ge C dX8_loadOf_27 (tgt := 66) (by decide) ?_ ?_
      · exact hk i2 i3 h
      · refine q_iload_n C dX8_loadOf_30 rfl ?_
        refine q_aload_n C dX8_loadOf_31 rfl ?_
        refine q_iload_n C dX8_loadOf_32 rfl ?_
        refine q_pcallVI C dX8_loadOf_33 mv8_203 (cq_X8_isActive w l h _ _) rfl ⟨by decide, by decide⟩ ⟨rfl, Nat.le_of_ble_eq_true rfl⟩ (fun x4 => ?_)
        refine q_if_eq C dX8_loadOf_36 (tgt := 57) (by decide) ?_ ?_
        · refine q_iconst C dX8_loadOf_57 rfl ?_
          refine q_iadd C dX8_loadOf_58 ?_
          refine q_istore_nL C dX8_loadOf_59 (by decide) (fun x5 => ?_)
          refine q_iincL C dX8_loadOf_60 rfl (by decide) (fun x6 => ?_)
          refine q_goto C dX8_loadOf_63 (tgt := 18) (by decide) ?_
          exact ih x5 x6 h
        · refine q_aload_n C dX8_loadOf_39 rfl ?_
          refine q_iload_n C dX8_loadOf_40 rfl ?_
          refine q_iconst C dX8_loadOf_41 rfl ?_
          refine q_pcallVI C dX8_loadOf_42 mv8_200 (cq_X8_of w l h _ _ _) rfl ⟨by decide, by decide⟩ ⟨rfl, Nat.le_of_ble_eq_true rfl⟩ (fun x7 => ?_)
          refine q_iload_n C dX8_loadOf_45 rfl ?_
          refine q_icmp_ne C dX8_loadOf_46 (tgt := 57) (by decide) ?_ ?_
          · refine q_iconst C dX8_loadOf_57 rfl ?_
            refine q_iadd C dX8_loadOf_58 ?_
            refine q_istore_nL C dX8_loadOf_59 (by decide) (fun x8 => ?_)
            refine q_iincL C dX8_loadOf_60 rfl (by decide) (fun x9 => ?_)
            refine q_goto C dX8_loadOf_63 (tgt := 18) (by decide) ?_
            exact ih x8 x9 h
          · refine q_aload_n C dX8_loadOf_49 rfl ?_
            refine q_iload_n C dX8_loadOf_50 rfl ?_
            refine q_pcallVI C dX8_loadOf_51 mv8_209 (cq_X8_burst w l h _ _) rfl ⟨by decide, by decide⟩ ⟨rfl, Nat.le_of_ble_eq_true rfl⟩ (fun x10 => ?_)
            refine q_goto C dX8_loadOf_54 (tgt := 58) (by decide) ?_
            refine q_iadd C dX8_loadOf_58 ?_
            refine q_istore_nL C dX8_loadOf_59 (by decide) (fun x11 => ?_)
            refine q_iincL C dX8_loadOf_60 rfl (by decide) (fun x12 => ?_)
            refine q_goto C dX8_loadOf_63 (tgt := 18) (by decide) ?_
            exact ih x11 x12 h
  unfold q_X8_loadOf
  refine q_aload_n C dX8_loadOf_0 rfl ?_
  refine q_aload_n C dX8_loadOf_1 rfl ?_
  refine q_iload_n C dX8_loadOf_2 rfl ?_
  refine q_pcallVI C dX8_loadOf_3 mv8_178 (cq_X8_isStation w l h _ _) rfl ⟨by decide, by decide⟩ ⟨rfl, Nat.le_of_ble_eq_true rfl⟩ (fun x1 => ?_)
  refine q_callVI C dX8_loadOf_6 mv8_181 (cq_X8_checks w l h _ _) rfl ⟨by decide, by decide⟩ ⟨rfl, Nat.le_of_ble_eq_true rfl⟩ (fun x2 h3 => ?_)
  refine q_if_ne C dX8_loadOf_9 (tgt := 14) (by decide) ?_ ?_
  · refine q_iconst C dX8_loadOf_14 rfl ?_
    refine q_istore_n C dX8_loadOf_15 (by decide) ?_
    refine q_iconst C dX8_loadOf_16 rfl ?_
    refine q_istore_n C dX8_loadOf_17 (by decide) ?_
    refine L18 a_0 x_1 _ ?_ zF 0 0 h3
    intro x13 x14 h15
    refine q_iload_n C dX8_loadOf_66 rfl ?_
    exact q_iret C Z1 Z2 dX8_loadOf_67
  · refine q_iconst C dX8_loadOf_12 rfl ?_
    exact q_iret C Z1 Z2 dX8_loadOf_13
def q_X8_degradedNow_L9 (a0 : Nat) (k : Int → Int → zH → Option (Int × zH)) : Nat → Int → Int → zH → Option (Int × zH)
  | 0, _, _, _ => none
  | n + 1, i1, i2, h => if h.1 (h.2 a0 5) 404 ≤ i2 then (k i1 i2 h) else (zbp (q_X8_isActive h a0 i2) (fun x2 => if x2 = 0 then (zlet (zor i1 0) (fun x3 => zlet (zw (i2 + 1)) (fun x4 => q_X8_degradedNow_L9 a0 k n x3 x4 h))) else (zbp (q_X8_marginNow h a0 i2) (fun x5 => if 0 ≤ x5 then (zlet (zor i1 0) (fun x6 => zlet (zw (i2 + 1)) (fun x7 => q_X8_degradedNow_L9 a0 k n x6 x7 h))) else (zlet (zor i1 (zshl 1 i2)) (fun x8 => zlet (zw (i2 + 1)) (fun x9 => q_X8_degradedNow_L9 a0 k n x8 x9 h)))))))
def q_X8_degradedNow (h : zH) (a_0 : Nat) : Option (Int × zH) := zlet (zput h a_0 0 0) (fun h1 => q_X8_degradedNow_L9 a_0 (fun x10 x11 h12 => some (x10, h12)) zF 0 0 h1)
theorem cq_X8_degradedNow (w : zW) (l : Launch) (h : zH) (a_0 : Nat) : zCq w l yX8_degradedNow cX8_degradedNow 3 (some .int) 3 69 [.inr (8, a_0)] h qI (q_X8_degradedNow h a_0) := by
  refine zCq.of (own := RX8) (loc := [some (.inr (8, a_0)), none, none]) (by decide) rfl (Nat.le_of_ble_eq_true rfl) (fun k v hk => ?_) ?_
  · exact zloc_ok 2 rfl hk
  intro p e s m args below meth c C Z1 Z2
  have L9 : ∀ (a0 : Nat) (k : Int → Int → zH → Option (Int × zH)) (hk : ∀ (i1 : Int) (i2 : Int) (h : zH), zQV w p l e (zRm 3 69) s m args below meth c 3 qI (k i1 i2 h) 53 [some (.inr (8, a0)), some (.inl i1), some (.inl i2)] [] h) (n : Nat) (i1 : Int) (i2 : Int) (h : zH), zQV w p l e (zRm 3 69) s m args below meth c 3 qI (q_X8_degradedNow_L9 a0 k n i1 i2 h) 9 [some (.inr (8, a0)), some (.inl i1), some (.inl i2)] [] h := by
    intro a0 k hk n
    induction n with
    | zero =>
      intro i1 i2 h
      exact q_none
    | succ n ih =>
      intro i1 i2 h
      rw [q_X8_degradedNow_L9]
      refine q_iload_n C dX8_degradedNow_9 rfl ?_
      refine q_aload_n C dX8_degradedNow_10 rfl ?_
      refine q_getR C dX8_degradedNow_11 fl8_19 rfl ?_
      refine q_sipush C dX8_degradedNow_14 (by decide) rfl ?_
      refine q_ialdN (j := 404) C dX8_degradedNow_17 ⟨by decide, by decide, rfl⟩ rfl (by decide) ?_
      refine q_icmp_ge C dX8_degradedNow_18 (tgt := 53) (by decide) ?_ ?_
      · exact hk i1 i2 h
      · refine q_iload_n C dX8_degradedNow_21 rfl ?_
        refine q_aload_n C dX8_degradedNow_22 rfl ?_
        refine q_iload_n C dX8_degradedNow_23 rfl ?_
        refine q_pcallVI C dX8_degradedNow_24 mv8_203 (cq_X8_isActive w l h _ _) rfl ⟨by decide, by decide⟩ ⟨rfl, Nat.le_of_ble_eq_true rfl⟩ (fun x2 => ?_)
        refine q_if_eq C dX8_degradedNow_27 (tgt := 44) (by decide) ?_ ?_
        · refine q_iconst C dX8_degradedNow_44 rfl ?_
          refine q_ior C dX8_degradedNow_45 ?_
          refine q_istore_nL C dX8_degradedNow_46 (by decide) (fun x3 => ?_)
          refine q_iincL C dX8_degradedNow_47 rfl (by decide) (fun x4 => ?_)
          refine q_goto C dX8_degradedNow_50 (tgt := 9) (by decide) ?_
          exact ih x3 x4 h
        · refine q_aload_n C dX8_degradedNow_30 rfl ?_
          refine q_iload_n C dX8_degradedNow_31 rfl ?_
          refine q_pcallVI C dX8_degradedNow_32 mv8_216 (cq_X8_marginNow w l h _ _) rfl ⟨by decide, by decide⟩ ⟨rfl, Nat.le_of_ble_eq_true rfl⟩ (fun x5 => ?_)
          refine q_if_ge C dX8_degradedNow_35 (tgt := 44) (by decide) ?_ ?_
          · refine q_iconst C dX8_degradedNow_44 rfl ?_
            refine q_ior C dX8_degradedNow_45 ?_
            refine q_istore_nL C dX8_degradedNow_46 (by decide) (fun x6 => ?_)
            refine q_iincL C dX8_degradedNow_47 rfl (by decide) (fun x7 => ?_)
            refine q_goto C dX8_degradedNow_50 (tgt := 9) (by decide) ?_
            exact ih x6 x7 h
          · refine q_iconst C dX8_degradedNow_38 rfl ?_
            refine q_iload_n C dX8_degradedNow_39 rfl ?_
            refine q_ishl C dX8_degradedNow_40 ?_
            refine q_goto C dX8_degradedNow_41 (tgt := 45) (by decide) ?_
            refine q_ior C dX8_degradedNow_45 ?_
            refine q_istore_nL C dX8_degradedNow_46 (by decide) (fun x8 => ?_)
            refine q_iincL C dX8_degradedNow_47 rfl (by decide) (fun x9 => ?_)
            refine q_goto C dX8_degradedNow_50 (tgt := 9) (by decide) ?_
            exact ih x8 x9 h
  unfold q_X8_degradedNow
  refine q_aload_n C dX8_degradedNow_0 rfl ?_
  refine q_iconst C dX8_degradedNow_1 rfl ?_
  refine q_putI C dX8_degradedNow_2 pl8_47 rfl (fun h1 => ?_)
  refine q_iconst C dX8_degradedNow_5 rfl ?_
  refine q_istore_n C dX8_degradedNow_6 (by decide) ?_
  refine q_iconst C dX8_degradedNow_7 rfl ?_
  refine q_istore_n C dX8_degradedNow_8 (by decide) ?_
  refine L9 a_0 _ ?_ zF 0 0 h1
  intro x10 x11 h12
  refine q_iload_n C dX8_degradedNow_53 rfl ?_
  exact q_iret C Z1 Z2 dX8_degradedNow_54
def q_X8_fitsBut (h : zH) (a_0 : Nat) (x_1 : Int) (x_2 : Int) : Option (Int × zH) := zlet (zput h a_0 25 (h.1 (h.2 a_0 3) 64)) (fun h1 => zbd (q_X8_laysBursts h1 a_0 x_2) (fun _ h2 => zbd (q_X8_finds h2 a_0 x_1) (fun x3 h4 => zgb x3 (some (x3, h4)))))
theorem cq_X8_fitsBut (w : zW) (l : Launch) (h : zH) (a_0 : Nat) (x_1 : Int) (x_2 : Int) : zCq w l yX8_fitsBut cX8_fitsBut 3 (some .boolean) 5 118 [.inr (8, a_0), .inl x_1, .inl x_2] h qI (q_X8_fitsBut h a_0 x_1 x_2) := by
  refine zCq.of (own := RX8) (loc := [some (.inr (8, a_0)), some (.inl x_1), some (.inl x_2)]) (by decide) rfl (Nat.le_of_ble_eq_true rfl) (fun k v hk => ?_) ?_
  · exact zloc_ok 0 rfl hk
  intro p e s m args below meth c C Z1 Z2
  unfold q_X8_fitsBut
  refine q_aload_n C dX8_fitsBut_0 rfl ?_
  refine q_aload_n C dX8_fitsBut_1 rfl ?_
  refine q_getR C dX8_fitsBut_2 fl8_13 rfl ?_
  refine q_bipush C dX8_fitsBut_5 (by decide) rfl ?_
  refine q_ialdN (j := 64) C dX8_fitsBut_7 ⟨by decide, by decide, rfl⟩ rfl (by decide) ?_
  refine q_putI C dX8_fitsBut_8 pl8_138 rfl (fun h1 => ?_)
  refine q_aload_n C dX8_fitsBut_11 rfl ?_
  refine q_iload_n C dX8_fitsBut_12 rfl ?_
  refine q_callVU C dX8_fitsBut_13 mv8_248 (cq_X8_laysBursts w l h1 _ _) rfl ⟨by decide, by decide⟩ ⟨rfl, Nat.le_of_ble_eq_true rfl⟩ (fun _ h2 => ?_)
  refine q_aload_n C dX8_fitsBut_16 rfl ?_
  refine q_iload_n C dX8_fitsBut_17 rfl ?_
  refine q_callVI C dX8_fitsBut_18 mv8_251 (cq_X8_finds w l h2 _ _) rfl ⟨by decide, by decide⟩ ⟨rfl, Nat.le_of_ble_eq_true rfl⟩ (fun x3 h4 => ?_)
  exact q_zretg C Z1 Z2 dX8_fitsBut_21
def q_X8_fitsWithout (h : zH) (a_0 : Nat) (x_1 : Int) (x_2 : Int) : Option (Int × zH) := zbp (q_X8_isCall h a_0 x_1) (fun x1 => zbd (q_X8_checks h a_0 x1) (fun x2 h3 => if x2 = 0 then (some (0, h3)) else (zbp (q_X8_of h3 a_0 x_1 5) (fun x4 => if x4 = 0 then (zbd (q_X8_fitsBut h3 a_0 x_1 x_2) (fun x5 h6 => if x5 = 0 then (some (0, h6)) else (some (1, h6)))) else (some (0, h3))))))
theorem cq_X8_fitsWithout (w : zW) (l : Launch) (h : zH) (a_0 : Nat) (x_1 : Int) (x_2 : Int) : zCq w l yX8_fitsWithout cX8_fitsWithout 3 (some .boolean) 6 140 [.inr (8, a_0), .inl x_1, .inl x_2] h qI (q_X8_fitsWithout h a_0 x_1 x_2) := by
  refine zCq.of (own := RX8) (loc := [some (.inr (8, a_0)), some (.inl x_1), some (.inl x_2)]) (by decide) rfl (Nat.le_of_ble_eq_true rfl) (fun k v hk => ?_) ?_
  · exact zloc_ok 0 rfl hk
  intro p e s m args below meth c C Z1 Z2
  unfold q_X8_fitsWithout
  refine q_aload_n C dX8_fitsWithout_0 rfl ?_
  refine q_aload_n C dX8_fitsWithout_1 rfl ?_
  refine q_iload_n C dX8_fitsWithout_2 rfl ?_
  refine q_pcallVI C dX8_fitsWithout_3 mv8_197 (cq_X8_isCall w l h _ _) rfl ⟨by decide, by decide⟩ ⟨rfl, Nat.le_of_ble_eq_true rfl⟩ (fun x1 => ?_)
  refine q_callVI C dX8_fitsWithout_6 mv8_181 (cq_X8_checks w l h _ _) rfl ⟨by decide, by decide⟩ ⟨rfl, Nat.le_of_ble_eq_true rfl⟩ (fun x2 h3 => ?_)
  refine q_if_eq C dX8_fitsWithout_9 (tgt := 34) (by decide) ?_ ?_
  · refine q_iconst C dX8_fitsWithout_34 rfl ?_
    exact q_zret C Z1 Z2 (Or.inl rfl) dX8_fitsWithout_35
  · refine q_aload_n C dX8_fitsWithout_12 rfl ?_
    refine q_iload_n C dX8_fitsWithout_13 rfl ?_
    refine q_iconst C dX8_fitsWithout_14 rfl ?_
    refine q_pcallVI C dX8_fitsWithout_15 mv8_200 (cq_X8_of w l h3 _ _ _) rfl ⟨by decide, by decide⟩ ⟨rfl, Nat.le_of_ble_eq_true rfl⟩ (fun x4 => ?_)
    refine q_if_ne C dX8_fitsWithout_18 (tgt := 34) (by decide) ?_ ?_
    · refine q_iconst C dX8_fitsWithout_34 rfl ?_
      exact q_zret C Z1 Z2 (Or.inl rfl) dX8_fitsWithout_35
    · refine q_aload_n C dX8_fitsWithout_21 rfl ?_
      refine q_iload_n C dX8_fitsWithout_22 rfl ?_
      refine q_iload_n C dX8_fitsWithout_23 rfl ?_
      refine q_callVI C dX8_fitsWithout_24 mv8_268 (cq_X8_fitsBut w l h3 _ _ _) rfl ⟨by decide, by decide⟩ ⟨rfl, Nat.le_of_ble_eq_true rfl⟩ (fun x5 h6 => ?_)
      refine q_if_eq C dX8_fitsWithout_27 (tgt := 34) (by decide) ?_ ?_
      · refine q_iconst C dX8_fitsWithout_34 rfl ?_
        exact q_zret C Z1 Z2 (Or.inl rfl) dX8_fitsWithout_35
      · refine q_iconst C dX8_fitsWithout_30 rfl ?_
        refine q_goto C dX8_fitsWithout_31 (tgt := 35) (by decide) ?_
        exact q_zret C Z1 Z2 (Or.inr rfl) dX8_fitsWithout_35
def q_X8_ones_L4 (h : zH) (k : Int → Int → Option Int) : Nat → Int → Int → Option Int
  | 0, _, _ => none
  | n + 1, i1, i2 => if i2 = 0 then (k i1 i2) else (zlet (zw (i1 + 1)) (fun x1 => zlet (zand i2 (zw (i2 - 1))) (fun x2 => q_X8_ones_L4 h k n x1 x2)))
def q_X8_ones (h : zH) (x_0 : Int) : Option Int := q_X8_ones_L4 h (fun x3 x4 => some x3) zF 0 x_0
theorem cq_X8_ones (w : zW) (l : Launch) (h : zH) (x_0 : Int) : zCp w l yX8_ones cX8_ones 3 (some .int) 0 0 [.inl x_0] h qI (q_X8_ones h x_0) := by
  refine zCp.of (own := RX8) (loc := [some (.inl x_0), none, none]) (by decide) rfl (Nat.le_of_ble_eq_true rfl) (fun k v hk => ?_) ?_
  · exact zloc_ok 2 rfl hk
  intro p e s m args below meth c C Z1 Z2
  have L4 : ∀ (k : Int → Int → Option Int) (hk : ∀ (u0 : Option zv) (i1 : Int) (i2 : Int), zQP w p l e (zRm 0 0) s m args below meth c 3 qI (k i1 i2) 20 [u0, some (.inl i1), some (.inl i2)] [] h) (n : Nat) (u0 : Option zv) (i1 : Int) (i2 : Int), zQP w p l e (zRm 0 0) s m args below meth c 3 qI (q_X8_ones_L4 h k n i1 i2) 4 [u0, some (.inl i1), some (.inl i2)] [] h := by
    intro k hk n
    induction n with
    | zero =>
      intro u0 i1 i2
      exact p_none
    | succ n ih =>
      intro u0 i1 i2
      rw [q_X8_ones_L4]
      refine p_iload_n C dX8_ones_4 rfl ?_
      refine p_if_eq C dX8_ones_5 (tgt := 20) (by decide) ?_ ?_
      · exact hk _ i1 i2
      · refine p_iincL C dX8_ones_8 rfl (by decide) (fun x1 => ?_)
        refine p_iload_n C dX8_ones_11 rfl ?_
        refine p_iload_n C dX8_ones_12 rfl ?_
        refine p_iconst C dX8_ones_13 rfl ?_
        refine p_isub C dX8_ones_14 ?_
        refine p_iand C dX8_ones_15 ?_
        refine p_istore_nL C dX8_ones_16 (by decide) (fun x2 => ?_)
        refine p_goto C dX8_ones_17 (tgt := 4) (by decide) ?_
        exact ih _ x1 x2
  unfold q_X8_ones
  refine p_iconst C dX8_ones_0 rfl ?_
  refine p_istore_n C dX8_ones_1 (by decide) ?_
  refine p_iload_n C dX8_ones_2 rfl ?_
  refine p_istore_n C dX8_ones_3 (by decide) ?_
  refine L4  _ ?_ zF _ 0 x_0
  intro u5 x3 x4
  refine p_iload_n C dX8_ones_20 rfl ?_
  exact p_iret C Z1 Z2 dX8_ones_21
def q_X8_callsToDrop_L29 (a0 : Nat) (i1 : Int) (k : Int → Int → zH → Option (Int × zH)) : Nat → Int → Int → zH → Option (Int × zH)
  | 0, _, _, _ => none
  | n + 1, i2, i3, h => if h.1 (h.2 a0 5) 404 ≤ i3 then (k i2 i3 h) else (zbp (q_X8_isActive h a0 i3) (fun x5 => if x5 = 0 then (zlet (zor i2 0) (fun x6 => zlet (zw (i3 + 1)) (fun x7 => q_X8_callsToDrop_L29 a0 i1 k n x6 x7 h))) else (zbp (q_X8_of h a0 i3 2) (fun x8 => zbp (q_X8_of h a0 i1 2) (fun x9 => if x9 ≤ x8 then (zlet (zor i2 0) (fun x10 => zlet (zw (i3 + 1)) (fun x11 => q_X8_callsToDrop_L29 a0 i1 k n x10 x11 h))) else (zlet (zor i2 (zshl 1 i3)) (fun x12 => zlet (zw (i3 + 1)) (fun x13 => q_X8_callsToDrop_L29 a0 i1 k n x12 x13 h))))))))
def q_X8_callsToDrop_L98 (a0 : Nat) (i1 : Int) (i2 : Int) (k : Int → Int → zH → Option (Int × zH)) : Nat → Int → Int → zH → Option (Int × zH)
  | 0, _, _, _ => none
  | n + 1, i3, i4, h => if i2 < i4 then (k i3 i4 h) else (if i3 = (-1) then (k i3 i4 h) else (zbp (q_X8_ones h i4) (fun x21 => zbp (q_X8_ones h i3) (fun x22 => if x21 < x22 then (if zand i4 (zxor i2 ((-1))) = 0 then (if (1 : Int) = 0 then (none) else (zbd (q_X8_fitsBut h a0 i1 i4) (fun x24 h25 => if x24 = 0 then (zlet (zw (i4 + 1)) (fun x26 => q_X8_callsToDrop_L98 a0 i1 i2 k n i3 x26 h25)) else (zlet (zw (i4 + 1)) (fun x27 => q_X8_callsToDrop_L98 a0 i1 i2 k n i4 x27 h25))))) else (zlet (zw (i4 + 1)) (fun x23 => q_X8_callsToDrop_L98 a0 i1 i2 k n i3 x23 h))) else (zbp (q_X8_ones h i4) (fun x28 => zbp (q_X8_ones h i3) (fun x29 => if x28 = x29 then (if i3 ≤ i4 then (if zand i4 (zxor i2 ((-1))) = 0 then (if (0 : Int) = 0 then (zlet (zw (i4 + 1)) (fun x33 => q_X8_callsToDrop_L98 a0 i1 i2 k n i3 x33 h)) else (none)) else (zlet (zw (i4 + 1)) (fun x32 => q_X8_callsToDrop_L98 a0 i1 i2 k n i3 x32 h))) else (if zand i4 (zxor i2 ((-1))) = 0 then (if (1 : Int) = 0 then (none) else (zbd (q_X8_fitsBut h a0 i1 i4) (fun x35 h36 => if x35 = 0 then (zlet (zw (i4 + 1)) (fun x37 => q_X8_callsToDrop_L98 a0 i1 i2 k n i3 x37 h36)) else (zlet (zw (i4 + 1)) (fun x38 => q_X8_callsToDrop_L98 a0 i1 i2 k n i4 x38 h36))))) else (zlet (zw (i4 + 1)) (fun x34 => q_X8_callsToDrop_L98 a0 i1 i2 k n i3 x34 h)))) else (if zand i4 (zxor i2 ((-1))) = 0 then (if (0 : Int) = 0 then (zlet (zw (i4 + 1)) (fun x31 => q_X8_callsToDrop_L98 a0 i1 i2 k n i3 x31 h)) else (none)) else (zlet (zw (i4 + 1)) (fun x30 => q_X8_callsToDrop_L98 a0 i1 i2 k n i3 x30 h))))))))))
def q_X8_callsToDrop (h : zH) (a_0 : Nat) (x_1 : Int) : Option (Int × zH) := zbp (q_X8_isCall h a_0 x_1) (fun x1 => zbd (q_X8_checks h a_0 x1) (fun x2 h3 => if x2 = 0 then (some (0, h3)) else (zbp (q_X8_of h3 a_0 x_1 5) (fun x4 => if x4 = 0 then (q_X8_callsToDrop_L29 a_0 x_1 (fun x14 x15 h16 => zbd (q_X8_fitsBut h16 a_0 x_1 x14) (fun x19 h20 => if x19 = 0 then (q_X8_callsToDrop_L98 a_0 x_1 x14 (fun x39 x40 h41 => some (x39, h41)) zF ((-1)) 0 h20) else (q_X8_callsToDrop_L98 a_0 x_1 x14 (fun x43 x44 h45 => some (x43, h45)) zF x14 0 h20))) zF 0 0 h3) else (some ((-1), h3))))))
theorem cq_X8_callsToDrop (w : zW) (l : Launch) (h : zH) (a_0 : Nat) (x_1 : Int) : zCq w l yX8_callsToDrop cX8_callsToDrop 6 (some .int) 6 140 [.inr (8, a_0), .inl x_1] h qI (q_X8_callsToDrop h a_0 x_1) := by
  refine zCq.of (own := RX8) (loc := [some (.inr (8, a_0)), some (.inl x_1), none, none, none, none]) (by decide) rfl (Nat.le_of_ble_eq_true rfl) (fun k v hk => ?_) ?_
  · exact zloc_ok 4 rfl hk
  intro p e s m args below meth c C Z1 Z2
  have L29 : ∀ (a0 : Nat) (i1 : Int) (k : Int → Int → zH → Option (Int × zH)) (hk : ∀ (u4 u5 : Option zv) (i2 : Int) (i3 : Int) (h : zH), zQV w p l e (zRm 6 140) s m args below meth c 6 qI (k i2 i3 h) 80 [some (.inr (8, a0)), some (.inl i1), some (.inl i2), some (.inl i3), u4, u5] [] h) (n : Nat) (u4 u5 : Option zv) (i2 : Int) (i3 : Int) (h : zH), zQV w p l e (zRm 6 140) s m args below meth c 6 qI (q_X8_callsToDrop_L29 a0 i1 k n i2 i3 h) 29 [some (.inr (8, a0)), some (.inl i1), some (.inl i2), some (.inl i3), u4, u5] [] h := by
    intro a0 i1 k hk n
    induction n with
    | zero =>
      intro u4 u5 i2 i3 h
      exact q_none
    | succ n ih =>
      intro u4 u5 i2 i3 h
      rw [q_X8_callsToDrop_L29]
      refine q_iload_n C dX8_callsToDrop_29 rfl ?_
      refine q_aload_n C dX8_callsToDrop_30 rfl ?_
      refine q_getR C dX8_callsToDrop_31 fl8_19 rfl ?_
      refine q_sipush C dX8_callsToDrop_34 (by decide) rfl ?_
      refine q_ialdN (j := 404) C dX8_callsToDrop_37 ⟨by decide, by decide, rfl⟩ rfl (by decide) ?_
      refine q_icmp_ge C dX8_callsToDrop_38 (tgt := 80) (by decide) ?_ ?_
      · exact hk _ _ i2 i3 h
      · refine q_iload_n C dX8_callsToDrop_41 rfl ?_
        refine q_aload_n C dX8_callsToDrop_42 rfl ?_
        refine q_iload_n C dX8_callsToDrop_43 rfl ?_
        refine q_pcallVI C dX8_callsToDrop_44 mv8_203 (cq_X8_isActive w l h _ _) rfl ⟨by decide, by decide⟩ ⟨rfl, Nat.le_of_ble_eq_true rfl⟩ (fun x5 => ?_)
        refine q_if_eq C dX8_callsToDrop_47 (tgt := 71) (by decide) ?_ ?_
        · refine q_iconst C dX8_callsToDrop_71 rfl ?_
          refine q_ior C dX8_callsToDrop_72 ?_
          refine q_istore_nL C dX8_callsToDrop_73 (by decide) (fun x6 => ?_)
          refine q_iincL C dX8_callsToDrop_74 rfl (by decide) (fun x7 => ?_)
          refine q_goto C dX8_callsToDrop_77 (tgt := 29) (by decide) ?_
          exact ih _ _ x6 x7 h
        · refine q_aload_n C dX8_callsToDrop_50 rfl ?_
          refine q_iload_n C dX8_callsToDrop_51 rfl ?_
          refine q_iconst C dX8_callsToDrop_52 rfl ?_
          refine q_pcallVI C dX8_callsToDrop_53 mv8_200 (cq_X8_of w l h _ _ _) rfl ⟨by decide, by decide⟩ ⟨rfl, Nat.le_of_ble_eq_true rfl⟩ (fun x8 => ?_)
          refine q_aload_n C dX8_callsToDrop_56 rfl ?_
          refine q_iload_n C dX8_callsToDrop_57 rfl ?_
          refine q_iconst C dX8_callsToDrop_58 rfl ?_
          refine q_pcallVI C dX8_callsToDrop_59 mv8_200 (cq_X8_of w l h _ _ _) rfl ⟨by decide, by decide⟩ ⟨rfl, Nat.le_of_ble_eq_true rfl⟩ (fun x9 => ?_)
          refine q_icmp_ge C dX8_callsToDrop_62 (tgt := 71) (by decide) ?_ ?_
          · refine q_iconst C dX8_callsToDrop_71 rfl ?_
            refine q_ior C dX8_callsToDrop_72 ?_
            refine q_istore_nL C dX8_callsToDrop_73 (by decide) (fun x10 => ?_)
            refine q_iincL C dX8_callsToDrop_74 rfl (by decide) (fun x11 => ?_)
            refine q_goto C dX8_callsToDrop_77 (tgt := 29) (by decide) ?_
            exact ih _ _ x10 x11 h
          · refine q_iconst C dX8_callsToDrop_65 rfl ?_
            refine q_iload_n C dX8_callsToDrop_66 rfl ?_
            refine q_ishl C dX8_callsToDrop_67 ?_
            refine q_goto C dX8_callsToDrop_68 (tgt := 72) (by decide) ?_
            refine q_ior C dX8_callsToDrop_72 ?_
            refine q_istore_nL C dX8_callsToDrop_73 (by decide) (fun x12 => ?_)
            refine q_iincL C dX8_callsToDrop_74 rfl (by decide) (fun x13 => ?_)
            refine q_goto C dX8_callsToDrop_77 (tgt := 29) (by decide) ?_
            exact ih _ _ x12 x13 h
  have L98 : ∀ (a0 : Nat) (i1 : Int) (i2 : Int) (k : Int → Int → zH → Option (Int × zH)) (hk : ∀ (u5 : Option zv) (i3 : Int) (i4 : Int) (h : zH), zQV w p l e (zRm 6 140) s m args below meth c 6 qI (k i3 i4 h) 179 [some (.inr (8, a0)), some (.inl i1), some (.inl i2), some (.inl i3), some (.inl i4), u5] [] h) (n : Nat) (u5 : Option zv) (i3 : Int) (i4 : Int) (h : zH), zQV w p l e (zRm 6 140) s m args below meth c 6 qI (q_X8_callsToDrop_L98 a0 i1 i2 k n i3 i4 h) 98 [some (.inr (8, a0)), some (.inl i1), some (.inl i2), some (.inl i3), some (.inl i4), u5] [] h := by
    intro a0 i1 i2 k hk n
    induction n with
    | zero =>
      intro u5 i3 i4 h
      exact q_none
    | succ n ih =>
      intro u5 i3 i4 h
      rw [q_X8_callsToDrop_L98]
      refine q_iload C dX8_callsToDrop_98 rfl ?_
      refine q_iload_n C dX8_callsToDrop_100 rfl ?_
      refine q_icmp_gt C dX8_callsToDrop_101 (tgt := 179) (by decide) ?_ ?_
      · exact hk _ i3 i4 h
      · refine q_iload_n C dX8_callsToDrop_104 rfl ?_
        refine q_iconst C dX8_callsToDrop_105 rfl ?_
        refine q_icmp_eq C dX8_callsToDrop_106 (tgt := 179) (by decide) ?_ ?_
        · exact hk _ i3 i4 h
        · refine q_iload C dX8_callsToDrop_109 rfl ?_
          refine q_pcallSI C dX8_callsToDrop_111 ms8_271 (cq_X8_ones w l h _) rfl ⟨by decide, by decide⟩ ⟨rfl, Nat.le_of_ble_eq_true rfl⟩ (fun x21 => ?_)
          refine q_iload_n C dX8_callsToDrop_114 rfl ?_
          refine q_pcallSI C dX8_callsToDrop_115 ms8_271 (cq_X8_ones w l h _) rfl ⟨by decide, by decide⟩ ⟨rfl, Nat.le_of_ble_eq_true rfl⟩ (fun x22 => ?_)
          refine q_icmp_lt C dX8_callsToDrop_118 (tgt := 139) (by decide) ?_ ?_
          · refine q_iconst C dX8_callsToDrop_139 rfl ?_
            refine q_goto C dX8_callsToDrop_140 (tgt := 144) (by decide) ?_
            refine q_istore C dX8_callsToDrop_144 (by decide) ?_
            refine q_iload C dX8_callsToDrop_146 rfl ?_
            refine q_iload_n C dX8_callsToDrop_148 rfl ?_
            refine q_iconst C dX8_callsToDrop_149 rfl ?_
            refine q_ixor C dX8_callsToDrop_150 ?_
            refine q_iand C dX8_callsToDrop_151 ?_
            refine q_if_ne C dX8_callsToDrop_152 (tgt := 173) (by decide) ?_ ?_
            · refine q_iincL C dX8_callsToDrop_173 rfl (by decide) (fun x23 => ?_)
              refine q_goto C dX8_callsToDrop_176 (tgt := 98) (by decide) ?_
              exact ih _ i3 x23 h
            · refine q_iload C dX8_callsToDrop_155 rfl ?_
              refine q_if_eq C dX8_callsToDrop_157 (tgt := 173) (by decide) ?_ ?_
              · exact q_none
              · refine q_aload_n C dX8_callsToDrop_160 rfl ?_
                refine q_iload_n C dX8_callsToDrop_161 rfl ?_
                refine q_iload C dX8_callsToDrop_162 rfl ?_
                refine q_callVI C dX8_callsToDrop_164 mv8_268 (cq_X8_fitsBut w l h _ _ _) rfl ⟨by decide, by decide⟩ ⟨rfl, Nat.le_of_ble_eq_true rfl⟩ (fun x24 h25 => ?_)
                refine q_if_eq C dX8_callsToDrop_167 (tgt := 173) (by decide) ?_ ?_
                · refine q_iincL C dX8_callsToDrop_173 rfl (by decide) (fun x26 => ?_)
                  refine q_goto C dX8_callsToDrop_176 (tgt := 98) (by decide) ?_
                  exact ih _ i3 x26 h25
                · refine q_iload C dX8_callsToDrop_170 rfl ?_
                  refine q_istore_n C dX8_callsToDrop_172 (by decide) ?_
                  refine q_iincL C dX8_callsToDrop_173 rfl (by decide) (fun x27 => ?_)
                  refine q_goto C dX8_callsToDrop_176 (tgt := 98) (by decide) ?_
                  exact ih _ i4 x27 h25
          · refine q_iload C dX8_callsToDrop_121 rfl ?_
            refine q_pcallSI C dX8_callsToDrop_123 ms8_271 (cq_X8_ones w l h _) rfl ⟨by decide, by decide⟩ ⟨rfl, Nat.le_of_ble_eq_true rfl⟩ (fun x28 => ?_)
            refine q_iload_n C dX8_callsToDrop_126 rfl ?_
            refine q_pcallSI C dX8_callsToDrop_127 ms8_271 (cq_X8_ones w l h _) rfl ⟨by decide, by decide⟩ ⟨rfl, Nat.le_of_ble_eq_true rfl⟩ (fun x29 => ?_)
            refine q_icmp_ne C dX8_callsToDrop_130 (tgt := 143) (by decide) ?_ ?_
            · refine q_iconst C dX8_callsToDrop_143 rfl ?_
              refine q_istore C dX8_callsToDrop_144 (by decide) ?_
              refine q_iload C dX8_callsToDrop_146 rfl ?_
              refine q_iload_n C dX8_callsToDrop_148 rfl ?_
              refine q_iconst C dX8_callsToDrop_149 rfl ?_
              refine q_ixor C dX8_callsToDrop_150 ?_
              refine q_iand C dX8_callsToDrop_151 ?_
              refine q_if_ne C dX8_callsToDrop_152 (tgt := 173) (by decide) ?_ ?_
              · refine q_iincL C dX8_callsToDrop_173 rfl (by decide) (fun x30 => ?_)
                refine q_goto C dX8_callsToDrop_176 (tgt := 98) (by decide) ?_
                exact ih _ i3 x30 h
              · refine q_iload C dX8_callsToDrop_155 rfl ?_
                refine q_if_eq C dX8_callsToDrop_157 (tgt := 173) (by decide) ?_ ?_
                · refine q_iincL C dX8_callsToDrop_173 rfl (by decide) (fun x31 => ?_)
                  refine q_goto C dX8_callsToDrop_176 (tgt := 98) (by decide) ?_
                  exact ih _ i3 x31 h
                · exact q_none
            · refine q_iload C dX8_callsToDrop_133 rfl ?_
              refine q_iload_n C dX8_callsToDrop_135 rfl ?_
              refine q_icmp_ge C dX8_callsToDrop_136 (tgt := 143) (by decide) ?_ ?_
              · refine q_iconst C dX8_callsToDrop_143 rfl ?_
                refine q_istore C dX8_callsToDrop_144 (by decide) ?_
                refine q_iload C dX8_callsToDrop_146 rfl ?_
                refine q_iload_n C dX8_callsToDrop_148 rfl ?_
                refine q_iconst C dX8_callsToDrop_149 rfl ?_
                refine q_ixor C dX8_callsToDrop_150 ?_
                refine q_iand C dX8_callsToDrop_151 ?_
                refine q_if_ne C dX8_callsToDrop_152 (tgt := 173) (by decide) ?_ ?_
                · refine q_iincL C dX8_callsToDrop_173 rfl (by decide) (fun x32 => ?_)
                  refine q_goto C dX8_callsToDrop_176 (tgt := 98) (by decide) ?_
                  exact ih _ i3 x32 h
                · refine q_iload C dX8_callsToDrop_155 rfl ?_
                  refine q_if_eq C dX8_callsToDrop_157 (tgt := 173) (by decide) ?_ ?_
                  · refine q_iincL C dX8_callsToDrop_173 rfl (by decide) (fun x33 => ?_)
                    refine q_goto C dX8_callsToDrop_176 (tgt := 98) (by decide) ?_
                    exact ih _ i3 x33 h
                  · exact q_none
              · refine q_iconst C dX8_callsToDrop_139 rfl ?_
                refine q_goto C dX8_callsToDrop_140 (tgt := 144) (by decide) ?_
                refine q_istore C dX8_callsToDrop_144 (by decide) ?_
                refine q_iload C dX8_callsToDrop_146 rfl ?_
                refine q_iload_n C dX8_callsToDrop_148 rfl ?_
                refine q_iconst C dX8_callsToDrop_149 rfl ?_
                refine q_ixor C dX8_callsToDrop_150 ?_
                refine q_iand C dX8_callsToDrop_151 ?_
                refine q_if_ne C dX8_callsToDrop_152 (tgt := 173) (by decide) ?_ ?_
                · refine q_iincL C dX8_callsToDrop_173 rfl (by decide) (fun x34 => ?_)
                  refine q_goto C dX8_callsToDrop_176 (tgt := 98) (by decide) ?_
                  exact ih _ i3 x34 h
                · refine q_iload C dX8_callsToDrop_155 rfl ?_
                  refine q_if_eq C dX8_callsToDrop_157 (tgt := 173) (by decide) ?_ ?_
                  · exact q_none
                  · refine q_aload_n C dX8_callsToDrop_160 rfl ?_
                    refine q_iload_n C dX8_callsToDrop_161 rfl ?_
                    refine q_iload C dX8_callsToDrop_162 rfl ?_
                    refine q_callVI C dX8_callsToDrop_164 mv8_268 (cq_X8_fitsBut w l h _ _ _) rfl ⟨by decide, by decide⟩ ⟨rfl, Nat.le_of_ble_eq_true rfl⟩ (fun x35 h36 => ?_)
                    refine q_if_eq C dX8_callsToDrop_167 (tgt := 173) (by decide) ?_ ?_
                    · refine q_iincL C dX8_callsToDrop_173 rfl (by decide) (fun x37 => ?_)
                      refine q_goto C dX8_callsToDrop_176 (tgt := 98) (by decide) ?_
                      exact ih _ i3 x37 h36
                    · refine q_iload C dX8_callsToDrop_170 rfl ?_
                      refine q_istore_n C dX8_callsToDrop_172 (by decide) ?_
                      refine q_iincL C dX8_callsToDrop_173 rfl (by decide) (fun x38 => ?_)
                      refine q_goto C dX8_callsToDrop_176 (tgt := 98) (by decide) ?_
                      exact ih _ i4 x38 h36
  unfold q_X8_callsToDrop
  refine q_aload_n C dX8_callsToDrop_0 rfl ?_
  refine q_aload_n C dX8_callsToDrop_1 rfl ?_
  refine q_iload_n C dX8_callsToDrop_2 rfl ?_
  refine q_pcallVI C dX8_callsToDrop_3 mv8_197 (cq_X8_isCall w l h _ _) rfl ⟨by decide, by decide⟩ ⟨rfl, Nat.le_of_ble_eq_true rfl⟩ (fun x1 => ?_)
  refine q_callVI C dX8_callsToDrop_6 mv8_181 (cq_X8_checks w l h _ _) rfl ⟨by decide, by decide⟩ ⟨rfl, Nat.le_of_ble_eq_true rfl⟩ (fun x2 h3 => ?_)
  refine q_if_ne C dX8_callsToDrop_9 (tgt := 14) (by decide) ?_ ?_
  · refine q_aload_n C dX8_callsToDrop_14 rfl ?_
    refine q_iload_n C dX8_callsToDrop_15 rfl ?_
    refine q_iconst C dX8_callsToDrop_16 rfl ?_
    refine q_pcallVI C dX8_callsToDrop_17 mv8_200 (cq_X8_of w l h3 _ _ _) rfl ⟨by decide, by decide⟩ ⟨rfl, Nat.le_of_ble_eq_true rfl⟩ (fun x4 => ?_)
    refine q_if_eq C dX8_callsToDrop_20 (tgt := 25) (by decide) ?_ ?_
    · refine q_iconst C dX8_callsToDrop_25 rfl ?_
      refine q_istore_n C dX8_callsToDrop_26 (by decide) ?_
      refine q_iconst C dX8_callsToDrop_27 rfl ?_
      refine q_istore_n C dX8_callsToDrop_28 (by decide) ?_
      refine L29 a_0 x_1 _ ?_ zF _ _ 0 0 h3
      intro u17 u18 x14 x15 h16
      refine q_aload_n C dX8_callsToDrop_80 rfl ?_
      refine q_iload_n C dX8_callsToDrop_81 rfl ?_
      refine q_iload_n C dX8_callsToDrop_82 rfl ?_
      refine q_callVI C dX8_callsToDrop_83 mv8_268 (cq_X8_fitsBut w l h16 _ _ _) rfl ⟨by decide, by decide⟩ ⟨rfl, Nat.le_of_ble_eq_true rfl⟩ (fun x19 h20 => ?_)
      refine q_if_eq C dX8_callsToDrop_86 (tgt := 93) (by decide) ?_ ?_
      · refine q_iconst C dX8_callsToDrop_93 rfl ?_
        refine q_istore_n C dX8_callsToDrop_94 (by decide) ?_
        refine q_iconst C dX8_callsToDrop_95 rfl ?_
        refine q_istore C dX8_callsToDrop_96 (by decide) ?_
        refine L98 a_0 x_1 x14 _ ?_ zF _ ((-1)) 0 h20
        intro u42 x39 x40 h41
        refine q_iload_n C dX8_callsToDrop_179 rfl ?_
        exact q_iret C Z1 Z2 dX8_callsToDrop_180
      · refine q_iload_n C dX8_callsToDrop_89 rfl ?_
        refine q_goto C dX8_callsToDrop_90 (tgt := 94) (by decide) ?_
        refine q_istore_n C dX8_callsToDrop_94 (by decide) ?_
        refine q_iconst C dX8_callsToDrop_95 rfl ?_
        refine q_istore C dX8_callsToDrop_96 (by decide) ?_
        refine L98 a_0 x_1 x14 _ ?_ zF _ x14 0 h20
        intro u46 x43 x44 h45
        refine q_iload_n C dX8_callsToDrop_179 rfl ?_
        exact q_iret C Z1 Z2 dX8_callsToDrop_180
    · refine q_iconst C dX8_callsToDrop_23 rfl ?_
      exact q_iret C Z1 Z2 dX8_callsToDrop_24
  · refine q_iconst C dX8_callsToDrop_12 rfl ?_
    exact q_iret C Z1 Z2 dX8_callsToDrop_13
def q_X8_findsAll_L7 (a0 : Nat) (i1 : Int) (k : Int → zH → Option (Int × zH)) : Nat → Int → zH → Option (Int × zH)
  | 0, _, _ => none
  | n + 1, i3, h => if 16 ≤ i3 then (k i3 h) else (zgi 16 i3 (zlet (zput h (h.2 a0 23) i3.toNat ((-1))) (fun h2 => zgi 16 i3 (zlet (zput h2 (h2.2 a0 24) i3.toNat ((-1))) (fun h3 => zlet (zw (i3 + 1)) (fun x4 => q_X8_findsAll_L7 a0 i1 k n x4 h3))))))
def q_X8_findsAll_L40 (a0 : Nat) (k : Int → zH → Option (Int × zH)) : Nat → Int → zH → Option (Int × zH)
  | 0, _, _ => none
  | n + 1, i3, h => if h.1 a0 22 ≤ i3 then (k i3 h) else (zgi 16 i3 (zbd (q_X8_finds h a0 (h.1 (h.2 a0 21) i3.toNat)) (fun x9 h10 => if x9 = 0 then (some (0, h10)) else (zgi 16 i3 (zgi 16 (h10.1 (h10.2 a0 21) i3.toNat) (zlet (zput h10 (h10.2 a0 23) (h10.1 (h10.2 a0 21) i3.toNat).toNat (h10.1 a0 26)) (fun h11 => zgi 16 i3 (zgi 16 (h11.1 (h11.2 a0 21) i3.toNat) (zlet (zput h11 (h11.2 a0 24) (h11.1 (h11.2 a0 21) i3.toNat).toNat (h11.1 a0 27)) (fun h12 => zlet (zw (i3 + 1)) (fun x13 => q_X8_findsAll_L40 a0 k n x13 h12)))))))))))
def q_X8_findsAll (h : zH) (a_0 : Nat) (x_1 : Int) (x_2 : Int) : Option (Int × zH) := zlet (zput h a_0 25 x_2) (fun h1 => q_X8_findsAll_L7 a_0 x_1 (fun x5 h6 => zbd (q_X8_orders h6 a_0 x_1) (fun _ h8 => q_X8_findsAll_L40 a_0 (fun x14 h15 => some (1, h15)) zF 0 h8)) zF 0 h1)
theorem cq_X8_findsAll (w : zW) (l : Launch) (h : zH) (a_0 : Nat) (x_1 : Int) (x_2 : Int) : zCq w l yX8_findsAll cX8_findsAll 4 (some .boolean) 5 118 [.inr (8, a_0), .inl x_1, .inl x_2] h qI (q_X8_findsAll h a_0 x_1 x_2) := by
  refine zCq.of (own := RX8) (loc := [some (.inr (8, a_0)), some (.inl x_1), some (.inl x_2), none]) (by decide) rfl (Nat.le_of_ble_eq_true rfl) (fun k v hk => ?_) ?_
  · exact zloc_ok 1 rfl hk
  intro p e s m args below meth c C Z1 Z2
  have L7 : ∀ (a0 : Nat) (i1 : Int) (k : Int → zH → Option (Int × zH)) (hk : ∀ (u2 : Option zv) (i3 : Int) (h : zH), zQV w p l e (zRm 5 118) s m args below meth c 4 qI (k i3 h) 33 [some (.inr (8, a0)), some (.inl i1), u2, some (.inl i3)] [] h) (n : Nat) (u2 : Option zv) (i3 : Int) (h : zH), zQV w p l e (zRm 5 118) s m args below meth c 4 qI (q_X8_findsAll_L7 a0 i1 k n i3 h) 7 [some (.inr (8, a0)), some (.inl i1), u2, some (.inl i3)] [] h := by
    intro a0 i1 k hk n
    induction n with
    | zero =>
      intro u2 i3 h
      exact q_none
    | succ n ih =>
      intro u2 i3 h
      rw [q_X8_findsAll_L7]
      refine q_iload_n C dX8_findsAll_7 rfl ?_
      refine q_bipush C dX8_findsAll_8 (by decide) rfl ?_
      refine q_icmp_ge C dX8_findsAll_10 (tgt := 33) (by decide) ?_ ?_
      · exact hk _ i3 h
      · refine q_aload_n C dX8_findsAll_13 rfl ?_
        refine q_getR C dX8_findsAll_14 fl8_35 rfl ?_
        refine q_iload_n C dX8_findsAll_17 rfl ?_
        refine q_iconst C dX8_findsAll_18 rfl ?_
        refine q_iast C dX8_findsAll_19 ⟨by decide, by decide, rfl⟩ (fun h2 => ?_)
        refine q_aload_n C dX8_findsAll_20 rfl ?_
        refine q_getR C dX8_findsAll_21 fl8_38 rfl ?_
        refine q_iload_n C dX8_findsAll_24 rfl ?_
        refine q_iconst C dX8_findsAll_25 rfl ?_
        refine q_iast C dX8_findsAll_26 ⟨by decide, by decide, rfl⟩ (fun h3 => ?_)
        refine q_iincL C dX8_findsAll_27 rfl (by decide) (fun x4 => ?_)
        refine q_goto C dX8_findsAll_30 (tgt := 7) (by decide) ?_
        exact ih _ x4 h3
  have L40 : ∀ (a0 : Nat) (k : Int → zH → Option (Int × zH)) (hk : ∀ (u1 u2 : Option zv) (i3 : Int) (h : zH), zQV w p l e (zRm 5 118) s m args below meth c 4 qI (k i3 h) 99 [some (.inr (8, a0)), u1, u2, some (.inl i3)] [] h) (n : Nat) (u1 u2 : Option zv) (i3 : Int) (h : zH), zQV w p l e (zRm 5 118) s m args below meth c 4 qI (q_X8_findsAll_L40 a0 k n i3 h) 40 [some (.inr (8, a0)), u1, u2, some (.inl i3)] [] h := by
    intro a0 k hk n
    induction n with
    | zero =>
      intro u1 u2 i3 h
      exact q_none
    | succ n ih =>
      intro u1 u2 i3 h
      rw [q_X8_findsAll_L40]
      refine q_iload_n C dX8_findsAll_40 rfl ?_
      refine q_aload_n C dX8_findsAll_41 rfl ?_
      refine q_getI C dX8_findsAll_42 fl8_219 rfl ?_
      refine q_icmp_ge C dX8_findsAll_45 (tgt := 99) (by decide) ?_ ?_
      · exact hk _ _ i3 h
      · refine q_aload_n C dX8_findsAll_48 rfl ?_
        refine q_aload_n C dX8_findsAll_49 rfl ?_
        refine q_getR C dX8_findsAll_50 fl8_32 rfl ?_
        refine q_iload_n C dX8_findsAll_53 rfl ?_
        refine q_iald C dX8_findsAll_54 ⟨by decide, by decide, rfl⟩ ?_
        refine q_callVI C dX8_findsAll_55 mv8_251 (cq_X8_finds w l h _ _) rfl ⟨by decide, by decide⟩ ⟨rfl, Nat.le_of_ble_eq_true rfl⟩ (fun x9 h10 => ?_)
        refine q_if_ne C dX8_findsAll_58 (tgt := 63) (by decide) ?_ ?_
        · refine q_aload_n C dX8_findsAll_63 rfl ?_
          refine q_getR C dX8_findsAll_64 fl8_35 rfl ?_
          refine q_aload_n C dX8_findsAll_67 rfl ?_
          refine q_getR C dX8_findsAll_68 fl8_32 rfl ?_
          refine q_iload_n C dX8_findsAll_71 rfl ?_
          refine q_iald C dX8_findsAll_72 ⟨by decide, by decide, rfl⟩ ?_
          refine q_aload_n C dX8_findsAll_73 rfl ?_
          refine q_getI C dX8_findsAll_74 fl8_230 rfl ?_
          refine q_iast C dX8_findsAll_77 ⟨by decide, by decide, rfl⟩ (fun h11 => ?_)
          refine q_aload_n C dX8_findsAll_78 rfl ?_
          refine q_getR C dX8_findsAll_79 fl8_38 rfl ?_
          refine q_aload_n C dX8_findsAll_82 rfl ?_
          refine q_getR C dX8_findsAll_83 fl8_32 rfl ?_
          refine q_iload_n C dX8_findsAll_86 rfl ?_
          refine q_iald C dX8_findsAll_87 ⟨by decide, by decide, rfl⟩ ?_
          refine q_aload_n C dX8_findsAll_88 rfl ?_
          refine q_getI C dX8_findsAll_89 fl8_233 rfl ?_
          refine q_iast C dX8_findsAll_92 ⟨by decide, by decide, rfl⟩ (fun h12 => ?_)
          refine q_iincL C dX8_findsAll_93 rfl (by decide) (fun x13 => ?_)
          refine q_goto C dX8_findsAll_96 (tgt := 40) (by decide) ?_
          exact ih _ _ x13 h12
        · refine q_iconst C dX8_findsAll_61 rfl ?_
          exact q_zret C Z1 Z2 (Or.inl rfl) dX8_findsAll_62
  unfold q_X8_findsAll
  refine q_aload_n C dX8_findsAll_0 rfl ?_
  refine q_iload_n C dX8_findsAll_1 rfl ?_
  refine q_putI C dX8_findsAll_2 pl8_138 rfl (fun h1 => ?_)
  refine q_iconst C dX8_findsAll_5 rfl ?_
  refine q_istore_n C dX8_findsAll_6 (by decide) ?_
  refine L7 a_0 x_1 _ ?_ zF _ 0 h1
  intro u7 x5 h6
  refine q_aload_n C dX8_findsAll_33 rfl ?_
  refine q_iload_n C dX8_findsAll_34 rfl ?_
  refine q_callVU C dX8_findsAll_35 mv8_226 (cq_X8_orders w l h6 _ _) rfl ⟨by decide, by decide⟩ ⟨rfl, Nat.le_of_ble_eq_true rfl⟩ (fun _ h8 => ?_)
  refine q_iconst C dX8_findsAll_38 rfl ?_
  refine q_istore_n C dX8_findsAll_39 (by decide) ?_
  refine L40 a_0 _ ?_ zF _ _ 0 h8
  intro u16 u17 x14 h15
  refine q_iconst C dX8_findsAll_99 rfl ?_
  exact q_zret C Z1 Z2 (Or.inr rfl) dX8_findsAll_100
def q_X8_carriersNeeded_L7 (a0 : Nat) (k : Int → zH → Option (Int × zH)) : Nat → Int → zH → Option (Int × zH)
  | 0, _, _ => none
  | n + 1, i1, h => if 4 < i1 then (k i1 h) else (zbd (q_X8_findsAll h a0 3 i1) (fun x2 h3 => if x2 = 0 then (zlet (zw (i1 + 1)) (fun x4 => q_X8_carriersNeeded_L7 a0 k n x4 h3)) else (some (i1, h3))))
def q_X8_carriersNeeded (h : zH) (a_0 : Nat) : Option (Int × zH) := zlet (zput h a_0 0 0) (fun h1 => q_X8_carriersNeeded_L7 a_0 (fun x5 h6 => some ((-1), h6)) zF 1 h1)
theorem cq_X8_carriersNeeded (w : zW) (l : Launch) (h : zH) (a_0 : Nat) : zCq w l yX8_carriersNeeded cX8_carriersNeeded 2 (some .int) 6 141 [.inr (8, a_0)] h qI (q_X8_carriersNeeded h a_0) := by
  refine zCq.of (own := RX8) (loc := [some (.inr (8, a_0)), none]) (by decide) rfl (Nat.le_of_ble_eq_true rfl) (fun k v hk => ?_) ?_
  · exact zloc_ok 1 rfl hk
  intro p e s m args below meth c C Z1 Z2
  have L7 : ∀ (a0 : Nat) (k : Int → zH → Option (Int × zH)) (hk : ∀ (i1 : Int) (h : zH), zQV w p l e (zRm 6 141) s m args below meth c 2 qI (k i1 h) 29 [some (.inr (8, a0)), some (.inl i1)] [] h) (n : Nat) (i1 : Int) (h : zH), zQV w p l e (zRm 6 141) s m args below meth c 2 qI (q_X8_carriersNeeded_L7 a0 k n i1 h) 7 [some (.inr (8, a0)), some (.inl i1)] [] h := by
    intro a0 k hk n
    induction n with
    | zero =>
      intro i1 h
      exact q_none
    | succ n ih =>
      intro i1 h
      rw [q_X8_carriersNeeded_L7]
      refine q_iload_n C dX8_carriersNeeded_7 rfl ?_
      refine q_iconst C dX8_carriersNeeded_8 rfl ?_
      refine q_icmp_gt C dX8_carriersNeeded_9 (tgt := 29) (by decide) ?_ ?_
      · exact hk i1 h
      · refine q_aload_n C dX8_carriersNeeded_12 rfl ?_
        refine q_iconst C dX8_carriersNeeded_13 rfl ?_
        refine q_iload_n C dX8_carriersNeeded_14 rfl ?_
        refine q_callVI C dX8_carriersNeeded_15 mv8_274 (cq_X8_findsAll w l h _ _ _) rfl ⟨by decide, by decide⟩ ⟨rfl, Nat.le_of_ble_eq_true rfl⟩ (fun x2 h3 => ?_)
        refine q_if_eq C dX8_carriersNeeded_18 (tgt := 23) (by decide) ?_ ?_
        · refine q_iincL C dX8_carriersNeeded_23 rfl (by decide) (fun x4 => ?_)
          refine q_goto C dX8_carriersNeeded_26 (tgt := 7) (by decide) ?_
          exact ih x4 h3
        · refine q_iload_n C dX8_carriersNeeded_21 rfl ?_
          exact q_iret C Z1 Z2 dX8_carriersNeeded_22
  unfold q_X8_carriersNeeded
  refine q_aload_n C dX8_carriersNeeded_0 rfl ?_
  refine q_iconst C dX8_carriersNeeded_1 rfl ?_
  refine q_putI C dX8_carriersNeeded_2 pl8_47 rfl (fun h1 => ?_)
  refine q_iconst C dX8_carriersNeeded_5 rfl ?_
  refine q_istore_n C dX8_carriersNeeded_6 (by decide) ?_
  refine L7 a_0 _ ?_ zF 1 h1
  intro x5 h6
  refine q_iconst C dX8_carriersNeeded_29 rfl ?_
  exact q_iret C Z1 Z2 dX8_carriersNeeded_30
def q_X8_moved (h : zH) (a_0 : Nat) (x_1 : Int) (x_2 : Int) (x_3 : Int) : Option Int := zgi 65 (zw (24 + x_1)) (zgi 65 (zw (18 + x_1)) (zbp (q_X8_fadeOf h a_0 x_1 x_3) (fun x1 => zlet (zmin (h.1 (h.2 a_0 3) (zw (24 + x_1)).toNat) (zw (h.1 (h.2 a_0 3) (zw (18 + x_1)).toNat + x1))) (fun x2 => zlet (h.1 (h.2 a_0 5) 6) (fun x3 => if x2 ≤ x_2 then (some (zmax x2 (zw (x_2 - x3)))) else (some (zmin x2 (zw (x_2 + x3)))))))))
theorem cq_X8_moved (w : zW) (l : Launch) (h : zH) (a_0 : Nat) (x_1 : Int) (x_2 : Int) (x_3 : Int) : zCp w l yX8_moved cX8_moved 6 (some .int) 1 72 [.inr (8, a_0), .inl x_1, .inl x_2, .inl x_3] h qI (q_X8_moved h a_0 x_1 x_2 x_3) := by
  refine zCp.of (own := RX8) (loc := [some (.inr (8, a_0)), some (.inl x_1), some (.inl x_2), some (.inl x_3), none, none]) (by decide) rfl (Nat.le_of_ble_eq_true rfl) (fun k v hk => ?_) ?_
  · exact zloc_ok 2 rfl hk
  intro p e s m args below meth c C Z1 Z2
  unfold q_X8_moved
  refine p_aload_n C dX8_moved_0 rfl ?_
  refine p_getR C dX8_moved_1 fl8_13 rfl ?_
  refine p_bipush C dX8_moved_4 (by decide) rfl ?_
  refine p_iload_n C dX8_moved_6 rfl ?_
  refine p_iadd C dX8_moved_7 ?_
  refine p_iald C dX8_moved_8 ⟨by decide, by decide, rfl⟩ ?_
  refine p_aload_n C dX8_moved_9 rfl ?_
  refine p_getR C dX8_moved_10 fl8_13 rfl ?_
  refine p_bipush C dX8_moved_13 (by decide) rfl ?_
  refine p_iload_n C dX8_moved_15 rfl ?_
  refine p_iadd C dX8_moved_16 ?_
  refine p_iald C dX8_moved_17 ⟨by decide, by decide, rfl⟩ ?_
  refine p_aload_n C dX8_moved_18 rfl ?_
  refine p_iload_n C dX8_moved_19 rfl ?_
  refine p_iload_n C dX8_moved_20 rfl ?_
  refine p_pcallVI C dX8_moved_21 mv8_188 (cq_X8_fadeOf w l h _ _ _) rfl ⟨by decide, by decide⟩ ⟨rfl, Nat.le_of_ble_eq_true rfl⟩ (fun x1 => ?_)
  refine p_iadd C dX8_moved_24 ?_
  refine p_mmin C dX8_moved_25 (zmem 1586 (by decide +kernel)) ⟨by decide, Nat.le_of_ble_eq_true rfl⟩ ?_
  refine p_istoreL C dX8_moved_28 (by decide) (fun x2 => ?_)
  refine p_aload_n C dX8_moved_30 rfl ?_
  refine p_getR C dX8_moved_31 fl8_19 rfl ?_
  refine p_bipush C dX8_moved_34 (by decide) rfl ?_
  refine p_ialdN (j := 6) C dX8_moved_36 ⟨by decide, by decide, rfl⟩ rfl (by decide) ?_
  refine p_istoreL C dX8_moved_37 (by decide) (fun x3 => ?_)
  refine p_iload C dX8_moved_39 rfl ?_
  refine p_iload_n C dX8_moved_41 rfl ?_
  refine p_icmp_le C dX8_moved_42 (tgt := 57) (by decide) ?_ ?_
  · refine p_iload C dX8_moved_57 rfl ?_
    refine p_iload_n C dX8_moved_59 rfl ?_
    refine p_iload C dX8_moved_60 rfl ?_
    refine p_isub C dX8_moved_62 ?_
    refine p_mmax C dX8_moved_63 (zmem 1587 (by decide +kernel)) ⟨by decide, Nat.le_of_ble_eq_true rfl⟩ ?_
    exact p_iret C Z1 Z2 dX8_moved_66
  · refine p_iload C dX8_moved_45 rfl ?_
    refine p_iload_n C dX8_moved_47 rfl ?_
    refine p_iload C dX8_moved_48 rfl ?_
    refine p_iadd C dX8_moved_50 ?_
    refine p_mmin C dX8_moved_51 (zmem 1586 (by decide +kernel)) ⟨by decide, Nat.le_of_ble_eq_true rfl⟩ ?_
    refine p_goto C dX8_moved_54 (tgt := 66) (by decide) ?_
    exact p_iret C Z1 Z2 dX8_moved_66
def q_X8_strays (h : zH) (a_0 : Nat) (x_1 : Int) (x_2 : Int) : Option (Unit × zH) := zbp (q_X8_tripOf h a_0 x_1) (fun x1 => zlet (zw (zw (x_2 - 1) - x1)) (fun x2 => if 0 ≤ x2 then (zbp (q_X8_errorPlaceOf h a_0 x_1 x2) (fun x3 => zgi 597 x3 (zgz 100 (zlet (zw ((zw (h.1 (h.2 a_0 5) x3.toNat * h.1 (h.2 a_0 5) 7)).tdiv 100)) (fun x4 => zbp (q_X8_errorPlaceOf h a_0 x_1 (zw (x_2 - 1))) (fun x5 => zgi 597 x5 (zgi 65 (zw (12 + x_1)) (zlet (zw (zw (h.1 (h.2 a_0 5) x5.toNat + h.1 (h.2 a_0 3) (zw (12 + x_1)).toNat) - x4)) (fun x6 => zbp (q_X8_errorPlaceOf h a_0 x_1 x_2) (fun x7 => zgi 597 x7 (zlet (zput h (h.2 a_0 5) x7.toNat (zmax (-100000) (zmin 100000 x6))) (fun h8 => some ((), h8))))))))))))) else (zbp (q_X8_errorPlaceOf h a_0 x_1 (zw (x_2 - 1))) (fun x9 => zgi 597 x9 (zgi 65 (zw (12 + x_1)) (zlet (zw (zw (h.1 (h.2 a_0 5) x9.toNat + h.1 (h.2 a_0 3) (zw (12 + x_1)).toNat) - 0)) (fun x10 => zbp (q_X8_errorPlaceOf h a_0 x_1 x_2) (fun x11 => zgi 597 x11 (zlet (zput h (h.2 a_0 5) x11.toNat (zmax (-100000) (zmin 100000 x10))) (fun h12 => some ((), h12)))))))))))
theorem cq_X8_strays (w : zW) (l : Launch) (h : zH) (a_0 : Nat) (x_1 : Int) (x_2 : Int) : zCq w l yX8_strays cX8_strays 6 none 1 72 [.inr (8, a_0), .inl x_1, .inl x_2] h qU (q_X8_strays h a_0 x_1 x_2) := by
  refine zCq.of (own := RX8) (loc := [some (.inr (8, a_0)), some (.inl x_1), some (.inl x_2), none, none, none]) (by decide) rfl (Nat.le_of_ble_eq_true rfl) (fun k v hk => ?_) ?_
  · exact zloc_ok 3 rfl hk
  intro p e s m args below meth c C Z1 Z2
  unfold q_X8_strays
  refine q_iload_n C dX8_strays_0 rfl ?_
  refine q_iconst C dX8_strays_1 rfl ?_
  refine q_isub C dX8_strays_2 ?_
  refine q_aload_n C dX8_strays_3 rfl ?_
  refine q_iload_n C dX8_strays_4 rfl ?_
  refine q_pcallVI C dX8_strays_5 mv8_194 (cq_X8_tripOf w l h _ _) rfl ⟨by decide, by decide⟩ ⟨rfl, Nat.le_of_ble_eq_true rfl⟩ (fun x1 => ?_)
  refine q_isub C dX8_strays_8 ?_
  refine q_istore_nL C dX8_strays_9 (by decide) (fun x2 => ?_)
  refine q_iload_n C dX8_strays_10 rfl ?_
  refine q_if_ge C dX8_strays_11 (tgt := 18) (by decide) ?_ ?_
  · refine q_aload_n C dX8_strays_18 rfl ?_
    refine q_getR C dX8_strays_19 fl8_19 rfl ?_
    refine q_aload_n C dX8_strays_22 rfl ?_
    refine q_iload_n C dX8_strays_23 rfl ?_
    refine q_iload_n C dX8_strays_24 rfl ?_
    refine q_pcallVI C dX8_strays_25 mv8_191 (cq_X8_errorPlaceOf w l h _ _ _) rfl ⟨by decide, by decide⟩ ⟨rfl, Nat.le_of_ble_eq_true rfl⟩ (fun x3 => ?_)
    refine q_iald C dX8_strays_28 ⟨by decide, by decide, rfl⟩ ?_
    refine q_aload_n C dX8_strays_29 rfl ?_
    refine q_getR C dX8_strays_30 fl8_19 rfl ?_
    refine q_bipush C dX8_strays_33 (by decide) rfl ?_
    refine q_ialdN (j := 7) C dX8_strays_35 ⟨by decide, by decide, rfl⟩ rfl (by decide) ?_
    refine q_imul C dX8_strays_36 ?_
    refine q_bipush C dX8_strays_37 (by decide) rfl ?_
    refine q_idiv C dX8_strays_39 ?_
    refine q_istoreL C dX8_strays_40 (by decide) (fun x4 => ?_)
    refine q_aload_n C dX8_strays_42 rfl ?_
    refine q_getR C dX8_strays_43 fl8_19 rfl ?_
    refine q_aload_n C dX8_strays_46 rfl ?_
    refine q_iload_n C dX8_strays_47 rfl ?_
    refine q_iload_n C dX8_strays_48 rfl ?_
    refine q_iconst C dX8_strays_49 rfl ?_
    refine q_isub C dX8_strays_50 ?_
    refine q_pcallVI C dX8_strays_51 mv8_191 (cq_X8_errorPlaceOf w l h _ _ _) rfl ⟨by decide, by decide⟩ ⟨rfl, Nat.le_of_ble_eq_true rfl⟩ (fun x5 => ?_)
    refine q_iald C dX8_strays_54 ⟨by decide, by decide, rfl⟩ ?_
    refine q_aload_n C dX8_strays_55 rfl ?_
    refine q_getR C dX8_strays_56 fl8_13 rfl ?_
    refine q_bipush C dX8_strays_59 (by decide) rfl ?_
    refine q_iload_n C dX8_strays_61 rfl ?_
    refine q_iadd C dX8_strays_62 ?_
    refine q_iald C dX8_strays_63 ⟨by decide, by decide, rfl⟩ ?_
    refine q_iadd C dX8_strays_64 ?_
    refine q_iload C dX8_strays_65 rfl ?_
    refine q_isub C dX8_strays_67 ?_
    refine q_istoreL C dX8_strays_68 (by decide) (fun x6 => ?_)
    refine q_aload_n C dX8_strays_70 rfl ?_
    refine q_getR C dX8_strays_71 fl8_19 rfl ?_
    refine q_aload_n C dX8_strays_74 rfl ?_
    refine q_iload_n C dX8_strays_75 rfl ?_
    refine q_iload_n C dX8_strays_76 rfl ?_
    refine q_pcallVI C dX8_strays_77 mv8_191 (cq_X8_errorPlaceOf w l h _ _ _) rfl ⟨by decide, by decide⟩ ⟨rfl, Nat.le_of_ble_eq_true rfl⟩ (fun x7 => ?_)
    refine q_ldcw (n := -100000) C dX8_strays_80 (zmem 1652 (by decide +kernel)) rfl ?_
    refine q_ldc (n := 100000) C dX8_strays_83 (zmem 1317 (by decide +kernel)) rfl ?_
    refine q_iload C dX8_strays_85 rfl ?_
    refine q_mmin C dX8_strays_87 (zmem 1586 (by decide +kernel)) ⟨by decide, Nat.le_of_ble_eq_true rfl⟩ ?_
    refine q_mmax C dX8_strays_90 (zmem 1587 (by decide +kernel)) ⟨by decide, Nat.le_of_ble_eq_true rfl⟩ ?_
    refine q_iast C dX8_strays_93 ⟨by decide, by decide, rfl⟩ (fun h8 => ?_)
    exact q_vret C Z1 Z2 dX8_strays_94
  · refine q_iconst C dX8_strays_14 rfl ?_
    refine q_goto C dX8_strays_15 (tgt := 40) (by decide) ?_
    refine q_istore C dX8_strays_40 (by decide) ?_
    refine q_aload_n C dX8_strays_42 rfl ?_
    refine q_getR C dX8_strays_43 fl8_19 rfl ?_
    refine q_aload_n C dX8_strays_46 rfl ?_
    refine q_iload_n C dX8_strays_47 rfl ?_
    refine q_iload_n C dX8_strays_48 rfl ?_
    refine q_iconst C dX8_strays_49 rfl ?_
    refine q_isub C dX8_strays_50 ?_
    refine q_pcallVI C dX8_strays_51 mv8_191 (cq_X8_errorPlaceOf w l h _ _ _) rfl ⟨by decide, by decide⟩ ⟨rfl, Nat.le_of_ble_eq_true rfl⟩ (fun x9 => ?_)
    refine q_iald C dX8_strays_54 ⟨by decide, by decide, rfl⟩ ?_
    refine q_aload_n C dX8_strays_55 rfl ?_
    refine q_getR C dX8_strays_56 fl8_13 rfl ?_
    refine q_bipush C dX8_strays_59 (by decide) rfl ?_
    refine q_iload_n C dX8_strays_61 rfl ?_
    refine q_iadd C dX8_strays_62 ?_
    refine q_iald C dX8_strays_63 ⟨by decide, by decide, rfl⟩ ?_
    refine q_iadd C dX8_strays_64 ?_
    refine q_iload C dX8_strays_65 rfl ?_
    refine q_isub C dX8_strays_67 ?_
    refine q_istoreL C dX8_strays_68 (by decide) (fun x10 => ?_)
    refine q_aload_n C dX8_strays_70 rfl ?_
    refine q_getR C dX8_strays_71 fl8_19 rfl ?_
    refine q_aload_n C dX8_strays_74 rfl ?_
    refine q_iload_n C dX8_strays_75 rfl ?_
    refine q_iload_n C dX8_strays_76 rfl ?_
    refine q_pcallVI C dX8_strays_77 mv8_191 (cq_X8_errorPlaceOf w l h _ _ _) rfl ⟨by decide, by decide⟩ ⟨rfl, Nat.le_of_ble_eq_true rfl⟩ (fun x11 => ?_)
    refine q_ldcw (n := -100000) C dX8_strays_80 (zmem 1652 (by decide +kernel)) rfl ?_
    refine q_ldc (n := 100000) C dX8_strays_83 (zmem 1317 (by decide +kernel)) rfl ?_
    refine q_iload C dX8_strays_85 rfl ?_
    refine q_mmin C dX8_strays_87 (zmem 1586 (by decide +kernel)) ⟨by decide, Nat.le_of_ble_eq_true rfl⟩ ?_
    refine q_mmax C dX8_strays_90 (zmem 1587 (by decide +kernel)) ⟨by decide, Nat.le_of_ble_eq_true rfl⟩ ?_
    refine q_iast C dX8_strays_93 ⟨by decide, by decide, rfl⟩ (fun h12 => ?_)
    exact q_vret C Z1 Z2 dX8_strays_94
def q_X8_errorAfter_L35 (a0 : Nat) (i1 : Int) (i2 : Int) (k : Int → zH → Option (Int × zH)) : Nat → Int → zH → Option (Int × zH)
  | 0, _, _ => none
  | n + 1, i3, h => if i2 < i3 then (k i3 h) else (zbd (q_X8_strays h a0 i1 (zw (h.1 (h.2 a0 5) 0 + i3))) (fun _ h5 => zlet (zw (i3 + 1)) (fun x6 => q_X8_errorAfter_L35 a0 i1 i2 k n x6 h5)))
def q_X8_errorAfter (h : zH) (a_0 : Nat) (x_1 : Int) (x_2 : Int) : Option (Int × zH) := zbp (q_X8_isStation h a_0 x_1) (fun x1 => zbd (q_X8_checks h a_0 x1) (fun x2 h3 => if x2 = 0 then (some (0, h3)) else (if x_2 < 0 then (some (-2147483648, h3)) else (if x_2 ≤ 200 then (zbd (q_X8_keepsOld h3 a_0) (fun _ h4 => q_X8_errorAfter_L35 a_0 x_1 x_2 (fun x7 h8 => zbp (q_X8_errorPlaceOf h8 a_0 x_1 (zw (h8.1 (h8.2 a_0 5) 0 + x_2))) (fun x9 => zgi 597 x9 (zlet (h8.1 (h8.2 a_0 5) x9.toNat) (fun x10 => zbd (q_X8_bringsOld h8 a_0) (fun _ h11 => some (x10, h11)))))) zF 1 h4)) else (some (-2147483648, h3))))))
theorem cq_X8_errorAfter (w : zW) (l : Launch) (h : zH) (a_0 : Nat) (x_1 : Int) (x_2 : Int) : zCq w l yX8_errorAfter cX8_errorAfter 4 (some .int) 2 97 [.inr (8, a_0), .inl x_1, .inl x_2] h qI (q_X8_errorAfter h a_0 x_1 x_2) := by
  refine zCq.of (own := RX8) (loc := [some (.inr (8, a_0)), some (.inl x_1), some (.inl x_2), none]) (by decide) rfl (Nat.le_of_ble_eq_true rfl) (fun k v hk => ?_) ?_
  · exact zloc_ok 1 rfl hk
  intro p e s m args below meth c C Z1 Z2
  have L35 : ∀ (a0 : Nat) (i1 : Int) (i2 : Int) (k : Int → zH → Option (Int × zH)) (hk : ∀ (i3 : Int) (h : zH), zQV w p l e (zRm 2 97) s m args below meth c 4 qI (k i3 h) 59 [some (.inr (8, a0)), some (.inl i1), some (.inl i2), some (.inl i3)] [] h) (n : Nat) (i3 : Int) (h : zH), zQV w p l e (zRm 2 97) s m args below meth c 4 qI (q_X8_errorAfter_L35 a0 i1 i2 k n i3 h) 35 [some (.inr (8, a0)), some (.inl i1), some (.inl i2), some (.inl i3)] [] h := by
    intro a0 i1 i2 k hk n
    induction n with
    | zero =>
      intro i3 h
      exact q_none
    | succ n ih =>
      intro i3 h
      rw [q_X8_errorAfter_L35]
      refine q_iload_n C dX8_errorAfter_35 rfl ?_
      refine q_iload_n C dX8_errorAfter_36 rfl ?_
      refine q_icmp_gt C dX8_errorAfter_37 (tgt := 59) (by decide) ?_ ?_
      · exact hk i3 h
      · refine q_aload_n C dX8_errorAfter_40 rfl ?_
        refine q_iload_n C dX8_errorAfter_41 rfl ?_
        refine q_aload_n C dX8_errorAfter_42 rfl ?_
        refine q_getR C dX8_errorAfter_43 fl8_19 rfl ?_
        refine q_iconst C dX8_errorAfter_46 rfl ?_
        refine q_ialdN (j := 0) C dX8_errorAfter_47 ⟨by decide, by decide, rfl⟩ rfl (by decide) ?_
        refine q_iload_n C dX8_errorAfter_48 rfl ?_
        refine q_iadd C dX8_errorAfter_49 ?_
        refine q_callVU C dX8_errorAfter_50 mv8_281 (cq_X8_strays w l h _ _ _) rfl ⟨by decide, by decide⟩ ⟨rfl, Nat.le_of_ble_eq_true rfl⟩ (fun _ h5 => ?_)
        refine q_iincL C dX8_errorAfter_53 rfl (by decide) (fun x6 => ?_)
        refine q_goto C dX8_errorAfter_56 (tgt := 35) (by decide) ?_
        exact ih x6 h5
  unfold q_X8_errorAfter
  refine q_aload_n C dX8_errorAfter_0 rfl ?_
  refine q_aload_n C dX8_errorAfter_1 rfl ?_
  refine q_iload_n C dX8_errorAfter_2 rfl ?_
  refine q_pcallVI C dX8_errorAfter_3 mv8_178 (cq_X8_isStation w l h _ _) rfl ⟨by decide, by decide⟩ ⟨rfl, Nat.le_of_ble_eq_true rfl⟩ (fun x1 => ?_)
  refine q_callVI C dX8_errorAfter_6 mv8_181 (cq_X8_checks w l h _ _) rfl ⟨by decide, by decide⟩ ⟨rfl, Nat.le_of_ble_eq_true rfl⟩ (fun x2 h3 => ?_)
  refine q_if_ne C dX8_errorAfter_9 (tgt := 14) (by decide) ?_ ?_
  · refine q_iload_n C dX8_errorAfter_14 rfl ?_
    refine q_if_lt C dX8_errorAfter_15 (tgt := 25) (by decide) ?_ ?_
    · refine q_ldcw (n := -2147483648) C dX8_errorAfter_25 (zmem 1647 (by decide +kernel)) rfl ?_
      exact q_iret C Z1 Z2 dX8_errorAfter_28
    · refine q_iload_n C dX8_errorAfter_18 rfl ?_
      refine q_sipush C dX8_errorAfter_19 (by decide) rfl ?_
      refine q_icmp_le C dX8_errorAfter_22 (tgt := 29) (by decide) ?_ ?_
      · refine q_aload_n C dX8_errorAfter_29 rfl ?_
        refine q_callVU C dX8_errorAfter_30 mv8_166 (cq_X8_keepsOld w l h3 _) rfl ⟨by decide, by decide⟩ ⟨rfl, Nat.le_of_ble_eq_true rfl⟩ (fun _ h4 => ?_)
        refine q_iconst C dX8_errorAfter_33 rfl ?_
        refine q_istore_n C dX8_errorAfter_34 (by decide) ?_
        refine L35 a_0 x_1 x_2 _ ?_ zF 1 h4
        intro x7 h8
        refine q_aload_n C dX8_errorAfter_59 rfl ?_
        refine q_getR C dX8_errorAfter_60 fl8_19 rfl ?_
        refine q_aload_n C dX8_errorAfter_63 rfl ?_
        refine q_iload_n C dX8_errorAfter_64 rfl ?_
        refine q_aload_n C dX8_errorAfter_65 rfl ?_
        refine q_getR C dX8_errorAfter_66 fl8_19 rfl ?_
        refine q_iconst C dX8_errorAfter_69 rfl ?_
        refine q_ialdN (j := 0) C dX8_errorAfter_70 ⟨by decide, by decide, rfl⟩ rfl (by decide) ?_
        refine q_iload_n C dX8_errorAfter_71 rfl ?_
        refine q_iadd C dX8_errorAfter_72 ?_
        refine q_pcallVI C dX8_errorAfter_73 mv8_191 (cq_X8_errorPlaceOf w l h8 _ _ _) rfl ⟨by decide, by decide⟩ ⟨rfl, Nat.le_of_ble_eq_true rfl⟩ (fun x9 => ?_)
        refine q_iald C dX8_errorAfter_76 ⟨by decide, by decide, rfl⟩ ?_
        refine q_istore_nL C dX8_errorAfter_77 (by decide) (fun x10 => ?_)
        refine q_aload_n C dX8_errorAfter_78 rfl ?_
        refine q_callVU C dX8_errorAfter_79 mv8_172 (cq_X8_bringsOld w l h8 _) rfl ⟨by decide, by decide⟩ ⟨rfl, Nat.le_of_ble_eq_true rfl⟩ (fun _ h11 => ?_)
        refine q_iload_n C dX8_errorAfter_82 rfl ?_
        exact q_iret C Z1 Z2 dX8_errorAfter_83
      · refine q_ldcw (n := -2147483648) C dX8_errorAfter_25 (zmem 1647 (by decide +kernel)) rfl ?_
        exact q_iret C Z1 Z2 dX8_errorAfter_28
  · refine q_iconst C dX8_errorAfter_12 rfl ?_
    exact q_iret C Z1 Z2 dX8_errorAfter_13
def q_X8_powerAfter_L57 (a0 : Nat) (i1 : Int) (i2 : Int) (k : Int → Int → zH → Option (Int × zH)) : Nat → Int → Int → zH → Option (Int × zH)
  | 0, _, _, _ => none
  | n + 1, i3, i4, h => if i2 < i4 then (k i3 i4 h) else (zbp (q_X8_moved h a0 i1 i3 (zw (h.1 (h.2 a0 5) 0 + i4))) (fun x5 => zlet (zw (i4 + 1)) (fun x6 => q_X8_powerAfter_L57 a0 i1 i2 k n x5 x6 h)))
def q_X8_powerAfter (h : zH) (a_0 : Nat) (x_1 : Int) (x_2 : Int) : Option (Int × zH) := zbp (q_X8_isStation h a_0 x_1) (fun x1 => zbd (q_X8_checks h a_0 x1) (fun x2 h3 => if x2 = 0 then (some (0, h3)) else (if x_2 < 0 then (some ((-2), h3)) else (if x_2 ≤ 200 then (if zw (h3.1 (h3.2 a_0 5) 0 + x_2) ≤ 9999 then (zgi 597 (zw (8 + x_1)) (zlet (h3.1 (h3.2 a_0 5) (zw (8 + x_1)).toNat) (fun x4 => q_X8_powerAfter_L57 a_0 x_1 x_2 (fun x7 x8 h9 => some (x7, h9)) zF x4 1 h3))) else (some ((-1), h3))) else (some ((-2), h3))))))
theorem cq_X8_powerAfter (w : zW) (l : Launch) (h : zH) (a_0 : Nat) (x_1 : Int) (x_2 : Int) : zCq w l yX8_powerAfter cX8_powerAfter 5 (some .int) 2 97 [.inr (8, a_0), .inl x_1, .inl x_2] h qI (q_X8_powerAfter h a_0 x_1 x_2) := by
  refine zCq.of (own := RX8) (loc := [some (.inr (8, a_0)), some (.inl x_1), some (.inl x_2), none, none]) (by decide) rfl (Nat.le_of_ble_eq_true rfl) (fun k v hk => ?_) ?_
  · exact zloc_ok 2 rfl hk
  intro p e s m args below meth c C Z1 Z2
  have L57 : ∀ (a0 : Nat) (i1 : Int) (i2 : Int) (k : Int → Int → zH → Option (Int × zH)) (hk : ∀ (i3 : Int) (i4 : Int) (h : zH), zQV w p l e (zRm 2 97) s m args below meth c 5 qI (k i3 i4 h) 85 [some (.inr (8, a0)), some (.inl i1), some (.inl i2), some (.inl i3), some (.inl i4)] [] h) (n : Nat) (i3 : Int) (i4 : Int) (h : zH), zQV w p l e (zRm 2 97) s m args below meth c 5 qI (q_X8_powerAfter_L57 a0 i1 i2 k n i3 i4 h) 57 [some (.inr (8, a0)), some (.inl i1), some (.inl i2), some (.inl i3), some (.inl i4)] [] h := by
    intro a0 i1 i2 k hk n
    induction n with
    | zero =>
      intro i3 i4 h
      exact q_none
    | succ n ih =>
      intro i3 i4 h
      rw [q_X8_powerAfter_L57]
      refine q_iload C dX8_powerAfter_57 rfl ?_
      refine q_iload_n C dX8_powerAfter_59 rfl ?_
      refine q_icmp_gt C dX8_powerAfter_60 (tgt := 85) (by decide) ?_ ?_
      · exact hk i3 i4 h
      · refine q_aload_n C dX8_powerAfter_63 rfl ?_
        refine q_iload_n C dX8_powerAfter_64 rfl ?_
        refine q_iload_n C dX8_powerAfter_65 rfl ?_
        refine q_aload_n C dX8_powerAfter_66 rfl ?_
        refine q_getR C dX8_powerAfter_67 fl8_19 rfl ?_
        refine q_iconst C dX8_powerAfter_70 rfl ?_
        refine q_ialdN (j := 0) C dX8_powerAfter_71 ⟨by decide, by decide, rfl⟩ rfl (by decide) ?_
        refine q_iload C dX8_powerAfter_72 rfl ?_
        refine q_iadd C dX8_powerAfter_74 ?_
        refine q_pcallVI C dX8_powerAfter_75 mv8_284 (cq_X8_moved w l h _ _ _ _) rfl ⟨by decide, by decide⟩ ⟨rfl, Nat.le_of_ble_eq_true rfl⟩ (fun x5 => ?_)
        refine q_istore_n C dX8_powerAfter_78 (by decide) ?_
        refine q_iincL C dX8_powerAfter_79 rfl (by decide) (fun x6 => ?_)
        refine q_goto C dX8_powerAfter_82 (tgt := 57) (by decide) ?_
        exact ih x5 x6 h
  unfold q_X8_powerAfter
  refine q_aload_n C dX8_powerAfter_0 rfl ?_
  refine q_aload_n C dX8_powerAfter_1 rfl ?_
  refine q_iload_n C dX8_powerAfter_2 rfl ?_
  refine q_pcallVI C dX8_powerAfter_3 mv8_178 (cq_X8_isStation w l h _ _) rfl ⟨by decide, by decide⟩ ⟨rfl, Nat.le_of_ble_eq_true rfl⟩ (fun x1 => ?_)
  refine q_callVI C dX8_powerAfter_6 mv8_181 (cq_X8_checks w l h _ _) rfl ⟨by decide, by decide⟩ ⟨rfl, Nat.le_of_ble_eq_true rfl⟩ (fun x2 h3 => ?_)
  refine q_if_ne C dX8_powerAfter_9 (tgt := 14) (by decide) ?_ ?_
  · refine q_iload_n C dX8_powerAfter_14 rfl ?_
    refine q_if_lt C dX8_powerAfter_15 (tgt := 25) (by decide) ?_ ?_
    · refine q_bipush C dX8_powerAfter_25 (by decide) rfl ?_
      exact q_iret C Z1 Z2 dX8_powerAfter_27
    · refine q_iload_n C dX8_powerAfter_18 rfl ?_
      refine q_sipush C dX8_powerAfter_19 (by decide) rfl ?_
      refine q_icmp_le C dX8_powerAfter_22 (tgt := 28) (by decide) ?_ ?_
      · refine q_aload_n C dX8_powerAfter_28 rfl ?_
        refine q_getR C dX8_powerAfter_29 fl8_19 rfl ?_
        refine q_iconst C dX8_powerAfter_32 rfl ?_
        refine q_ialdN (j := 0) C dX8_powerAfter_33 ⟨by decide, by decide, rfl⟩ rfl (by decide) ?_
        refine q_iload_n C dX8_powerAfter_34 rfl ?_
        refine q_iadd C dX8_powerAfter_35 ?_
        refine q_sipush C dX8_powerAfter_36 (by decide) rfl ?_
        refine q_icmp_le C dX8_powerAfter_39 (tgt := 44) (by decide) ?_ ?_
        · refine q_aload_n C dX8_powerAfter_44 rfl ?_
          refine q_getR C dX8_powerAfter_45 fl8_19 rfl ?_
          refine q_bipush C dX8_powerAfter_48 (by decide) rfl ?_
          refine q_iload_n C dX8_powerAfter_50 rfl ?_
          refine q_iadd C dX8_powerAfter_51 ?_
          refine q_iald C dX8_powerAfter_52 ⟨by decide, by decide, rfl⟩ ?_
          refine q_istore_nL C dX8_powerAfter_53 (by decide) (fun x4 => ?_)
          refine q_iconst C dX8_powerAfter_54 rfl ?_
          refine q_istore C dX8_powerAfter_55 (by decide) ?_
          refine L57 a_0 x_1 x_2 _ ?_ zF x4 1 h3
          intro x7 x8 h9
          refine q_iload_n C dX8_powerAfter_85 rfl ?_
          exact q_iret C Z1 Z2 dX8_powerAfter_86
        · refine q_iconst C dX8_powerAfter_42 rfl ?_
          exact q_iret C Z1 Z2 dX8_powerAfter_43
      · refine q_bipush C dX8_powerAfter_25 (by decide) rfl ?_
        exact q_iret C Z1 Z2 dX8_powerAfter_27
  · refine q_iconst C dX8_powerAfter_12 rfl ?_
    exact q_iret C Z1 Z2 dX8_powerAfter_13
def q_X8_framesInTime_L16 (a0 : Nat) (i1 : Int) (k : Int → zH → Option (Int × zH)) : Nat → Int → zH → Option (Int × zH)
  | 0, _, _ => none
  | n + 1, i2, h => if 200 < i2 then (k i2 h) else (zbd (q_X8_errorAfter h a0 i1 i2) (fun x4 h5 => if zw (zabs x4 * 2) ≤ h5.1 (h5.2 a0 5) 2 then (zlet (zw (i2 + 1)) (fun x6 => q_X8_framesInTime_L16 a0 i1 k n x6 h5)) else (some (i2, h5))))
def q_X8_framesInTime (h : zH) (a_0 : Nat) (x_1 : Int) : Option (Int × zH) := zbp (q_X8_isStation h a_0 x_1) (fun x1 => zbd (q_X8_checks h a_0 x1) (fun x2 h3 => if x2 = 0 then (some (0, h3)) else (q_X8_framesInTime_L16 a_0 x_1 (fun x7 h8 => some ((-1), h8)) zF 0 h3)))
theorem cq_X8_framesInTime (w : zW) (l : Launch) (h : zH) (a_0 : Nat) (x_1 : Int) : zCq w l yX8_framesInTime cX8_framesInTime 3 (some .int) 3 120 [.inr (8, a_0), .inl x_1] h qI (q_X8_framesInTime h a_0 x_1) := by
  refine zCq.of (own := RX8) (loc := [some (.inr (8, a_0)), some (.inl x_1), none]) (by decide) rfl (Nat.le_of_ble_eq_true rfl) (fun k v hk => ?_) ?_
  · exact zloc_ok 1 rfl hk
  intro p e s m args below meth c C Z1 Z2
  have L16 : ∀ (a0 : Nat) (i1 : Int) (k : Int → zH → Option (Int × zH)) (hk : ∀ (i2 : Int) (h : zH), zQV w p l e (zRm 3 120) s m args below meth c 3 qI (k i2 h) 51 [some (.inr (8, a0)), some (.inl i1), some (.inl i2)] [] h) (n : Nat) (i2 : Int) (h : zH), zQV w p l e (zRm 3 120) s m args below meth c 3 qI (q_X8_framesInTime_L16 a0 i1 k n i2 h) 16 [some (.inr (8, a0)), some (.inl i1), some (.inl i2)] [] h := by
    intro a0 i1 k hk n
    induction n with
    | zero =>
      intro i2 h
      exact q_none
    | succ n ih =>
      intro i2 h
      rw [q_X8_framesInTime_L16]
      refine q_iload_n C dX8_framesInTime_16 rfl ?_
      refine q_sipush C dX8_framesInTime_17 (by decide) rfl ?_
      refine q_icmp_gt C dX8_framesInTime_20 (tgt := 51) (by decide) ?_ ?_
      · exact hk i2 h
      · refine q_aload_n C dX8_framesInTime_23 rfl ?_
        refine q_iload_n C dX8_framesInTime_24 rfl ?_
        refine q_iload_n C dX8_framesInTime_25 rfl ?_
        refine q_callVI C dX8_framesInTime_26 mv8_287 (cq_X8_errorAfter w l h _ _ _) rfl ⟨by decide, by decide⟩ ⟨rfl, Nat.le_of_ble_eq_true rfl⟩ (fun x4 h5 => ?_)
        refine q_mabs C dX8_framesInTime_29 (zmem 1666 (by decide +kernel)) ⟨by decide, Nat.le_of_ble_eq_true rfl⟩ ?_
        refine q_iconst C dX8_framesInTime_32 rfl ?_
        refine q_imul C dX8_framesInTime_33 ?_
        refine q_aload_n C dX8_framesInTime_34 rfl ?_
        refine q_getR C dX8_framesInTime_35 fl8_19 rfl ?_
        refine q_iconst C dX8_framesInTime_38 rfl ?_
        refine q_ialdN (j := 2) C dX8_framesInTime_39 ⟨by decide, by decide, rfl⟩ rfl (by decide) ?_
        refine q_icmp_le C dX8_framesInTime_40 (tgt := 45) (by decide) ?_ ?_
        · refine q_iincL C dX8_framesInTime_45 rfl (by decide) (fun x6 => ?_)
          refine q_goto C dX8_framesInTime_48 (tgt := 16) (by decide) ?_
          exact ih x6 h5
        · refine q_iload_n C dX8_framesInTime_43 rfl ?_
          exact q_iret C Z1 Z2 dX8_framesInTime_44
  unfold q_X8_framesInTime
  refine q_aload_n C dX8_framesInTime_0 rfl ?_
  refine q_aload_n C dX8_framesInTime_1 rfl ?_
  refine q_iload_n C dX8_framesInTime_2 rfl ?_
  refine q_pcallVI C dX8_framesInTime_3 mv8_178 (cq_X8_isStation w l h _ _) rfl ⟨by decide, by decide⟩ ⟨rfl, Nat.le_of_ble_eq_true rfl⟩ (fun x1 => ?_)
  refine q_callVI C dX8_framesInTime_6 mv8_181 (cq_X8_checks w l h _ _) rfl ⟨by decide, by decide⟩ ⟨rfl, Nat.le_of_ble_eq_true rfl⟩ (fun x2 h3 => ?_)
  refine q_if_ne C dX8_framesInTime_9 (tgt := 14) (by decide) ?_ ?_
  · refine q_iconst C dX8_framesInTime_14 rfl ?_
    refine q_istore_n C dX8_framesInTime_15 (by decide) ?_
    refine L16 a_0 x_1 _ ?_ zF 0 h3
    intro x7 h8
    refine q_iconst C dX8_framesInTime_51 rfl ?_
    exact q_iret C Z1 Z2 dX8_framesInTime_52
  · refine q_iconst C dX8_framesInTime_12 rfl ?_
    exact q_iret C Z1 Z2 dX8_framesInTime_13
def q_X8_isLate (h : zH) (a_0 : Nat) (x_1 : Int) : Option Int := zbp (q_X8_errorPlaceOf h a_0 x_1 (h.1 (h.2 a_0 5) 0)) (fun x1 => zgi 597 x1 (if zw (zabs (h.1 (h.2 a_0 5) x1.toNat) * 2) ≤ h.1 (h.2 a_0 5) 2 then (some 0) else (some 1)))
theorem cq_X8_isLate (w : zW) (l : Launch) (h : zH) (a_0 : Nat) (x_1 : Int) : zCp w l yX8_isLate cX8_isLate 2 (some .boolean) 1 72 [.inr (8, a_0), .inl x_1] h qI (q_X8_isLate h a_0 x_1) := by
  refine zCp.of (own := RX8) (loc := [some (.inr (8, a_0)), some (.inl x_1)]) (by decide) rfl (Nat.le_of_ble_eq_true rfl) (fun k v hk => ?_) ?_
  · exact zloc_ok 0 rfl hk
  intro p e s m args below meth c C Z1 Z2
  unfold q_X8_isLate
  refine p_aload_n C dX8_isLate_0 rfl ?_
  refine p_getR C dX8_isLate_1 fl8_19 rfl ?_
  refine p_aload_n C dX8_isLate_4 rfl ?_
  refine p_iload_n C dX8_isLate_5 rfl ?_
  refine p_aload_n C dX8_isLate_6 rfl ?_
  refine p_getR C dX8_isLate_7 fl8_19 rfl ?_
  refine p_iconst C dX8_isLate_10 rfl ?_
  refine p_ialdN (j := 0) C dX8_isLate_11 ⟨by decide, by decide, rfl⟩ rfl (by decide) ?_
  refine p_pcallVI C dX8_isLate_12 mv8_191 (cq_X8_errorPlaceOf w l h _ _ _) rfl ⟨by decide, by decide⟩ ⟨rfl, Nat.le_of_ble_eq_true rfl⟩ (fun x1 => ?_)
  refine p_iald C dX8_isLate_15 ⟨by decide, by decide, rfl⟩ ?_
  refine p_mabs C dX8_isLate_16 (zmem 1666 (by decide +kernel)) ⟨by decide, Nat.le_of_ble_eq_true rfl⟩ ?_
  refine p_iconst C dX8_isLate_19 rfl ?_
  refine p_imul C dX8_isLate_20 ?_
  refine p_aload_n C dX8_isLate_21 rfl ?_
  refine p_getR C dX8_isLate_22 fl8_19 rfl ?_
  refine p_iconst C dX8_isLate_25 rfl ?_
  refine p_ialdN (j := 2) C dX8_isLate_26 ⟨by decide, by decide, rfl⟩ rfl (by decide) ?_
  refine p_icmp_le C dX8_isLate_27 (tgt := 34) (by decide) ?_ ?_
  · refine p_iconst C dX8_isLate_34 rfl ?_
    exact p_zret C Z1 Z2 (Or.inl rfl) dX8_isLate_35
  · refine p_iconst C dX8_isLate_30 rfl ?_
    refine p_goto C dX8_isLate_31 (tgt := 35) (by decide) ?_
    exact p_zret C Z1 Z2 (Or.inr rfl) dX8_isLate_35
def q_X8_passes_L19 (a0 : Nat) (i1 : Int) (k : Int → zH → Option (Unit × zH)) : Nat → Int → zH → Option (Unit × zH)
  | 0, _, _ => none
  | n + 1, i2, h => if h.1 (h.2 a0 3) 62 ≤ i2 then (k i2 h) else (zbd (q_X8_strays h a0 i2 i1) (fun _ h3 => zgi 597 (zw (8 + i2)) (zbp (q_X8_moved h3 a0 i2 (h3.1 (h3.2 a0 5) (zw (8 + i2)).toNat) i1) (fun x4 => zgi 597 (zw (8 + i2)) (zlet (zput h3 (h3.2 a0 5) (zw (8 + i2)).toNat x4) (fun h5 => zlet (zw (i2 + 1)) (fun x6 => q_X8_passes_L19 a0 i1 k n x6 h5)))))))
def q_X8_passes_L70 (a0 : Nat) (i1 : Int) (k : Int → Int → zH → Option (Unit × zH)) : Nat → Int → Int → zH → Option (Unit × zH)
  | 0, _, _, _ => none
  | n + 1, i2, i3, h => if h.1 (h.2 a0 5) 404 ≤ i3 then (k i2 i3 h) else (zbp (q_X8_isActive h a0 i3) (fun x12 => if x12 = 0 then (zlet (zw (i3 + 1)) (fun x18 => q_X8_passes_L70 a0 i1 k n i2 x18 h)) else (zbp (q_X8_of h a0 i3 8) (fun x13 => if i1 < x13 then (zlet (zor i2 (zshl 1 i3)) (fun x14 => zlet (zw (i3 + 1)) (fun x15 => q_X8_passes_L70 a0 i1 k n x14 x15 h))) else (zbd (q_X8_put h a0 i3 5 2) (fun _ h16 => zlet (zw (i3 + 1)) (fun x17 => q_X8_passes_L70 a0 i1 k n i2 x17 h16)))))))
def q_X8_passes_L137 (a0 : Nat) (i2 : Int) (k : Int → Int → zH → Option (Unit × zH)) : Nat → Int → Int → zH → Option (Unit × zH)
  | 0, _, _, _ => none
  | n + 1, i4, i5, h => if h.1 (h.2 a0 5) 404 ≤ i5 then (k i4 i5 h) else (if zand (zshr i2 i5) 1 = 0 then (zlet (zw (i5 + 1)) (fun x35 => q_X8_passes_L137 a0 i2 k n i4 x35 h)) else (zbp (q_X8_marginNow h a0 i5) (fun x26 => if 0 ≤ x26 then (zbp (q_X8_of h a0 i5 0) (fun x27 => zlet (zor i4 (zshl 1 x27)) (fun x28 => zlet (zw (i5 + 1)) (fun x29 => q_X8_passes_L137 a0 i2 k n x28 x29 h)))) else (zbp (q_X8_of h a0 i5 11) (fun x30 => zbd (q_X8_put h a0 i5 11 (zw (x30 + 1))) (fun _ h31 => zbp (q_X8_of h31 a0 i5 0) (fun x32 => zlet (zor i4 (zshl 1 x32)) (fun x33 => zlet (zw (i5 + 1)) (fun x34 => q_X8_passes_L137 a0 i2 k n x33 x34 h31)))))))))
def q_X8_passes_L212 (a0 : Nat) (i4 : Int) (k : Int → zH → Option (Unit × zH)) : Nat → Int → zH → Option (Unit × zH)
  | 0, _, _ => none
  | n + 1, i5, h => if h.1 (h.2 a0 3) 62 ≤ i5 then (k i5 h) else (zgi 597 (zw (14 + i5)) (if zand (zshr i4 i5) 1 = 1 then (zbp (q_X8_isLate h a0 i5) (fun x43 => if x43 = 0 then (zgi 597 (zw (14 + i5)) (zlet (zput h (h.2 a0 5) (zw (14 + i5)).toNat (zw (h.1 (h.2 a0 5) (zw (14 + i5)).toNat + 0))) (fun h44 => zlet (zw (i5 + 1)) (fun x45 => q_X8_passes_L212 a0 i4 k n x45 h44)))) else (zgi 597 (zw (14 + i5)) (zlet (zput h (h.2 a0 5) (zw (14 + i5)).toNat (zw (h.1 (h.2 a0 5) (zw (14 + i5)).toNat + 1))) (fun h46 => zlet (zw (i5 + 1)) (fun x47 => q_X8_passes_L212 a0 i4 k n x47 h46)))))) else (zgi 597 (zw (14 + i5)) (zlet (zput h (h.2 a0 5) (zw (14 + i5)).toNat (zw (h.1 (h.2 a0 5) (zw (14 + i5)).toNat + 0))) (fun h41 => zlet (zw (i5 + 1)) (fun x42 => q_X8_passes_L212 a0 i4 k n x42 h41))))))
def q_X8_passes (h : zH) (a_0 : Nat) : Option (Unit × zH) := zlet (zput h (h.2 a_0 5) 0 (zw (h.1 (h.2 a_0 5) 0 + 1))) (fun h1 => zlet (h1.1 (h1.2 a_0 5) 0) (fun x2 => q_X8_passes_L19 a_0 x2 (fun x7 h8 => q_X8_passes_L70 a_0 x2 (fun x19 x20 h21 => zbd (q_X8_serves h21 a_0) (fun x24 h25 => q_X8_passes_L137 a_0 x19 (fun x36 x37 h38 => q_X8_passes_L212 a_0 x36 (fun x48 h49 => some ((), h49)) zF 0 h38) zF 0 0 h25)) zF 0 0 h8) zF 0 h1))
theorem cq_X8_passes (w : zW) (l : Launch) (h : zH) (a_0 : Nat) : zCq w l yX8_passes cX8_passes 6 none 7 162 [.inr (8, a_0)] h qU (q_X8_passes h a_0) := by
  refine zCq.of (own := RX8) (loc := [some (.inr (8, a_0)), none, none, none, none, none]) (by decide) rfl (Nat.le_of_ble_eq_true rfl) (fun k v hk => ?_) ?_
  · exact zloc_ok 5 rfl hk
  intro p e s m args below meth c C Z1 Z2
  have L19 : ∀ (a0 : Nat) (i1 : Int) (k : Int → zH → Option (Unit × zH)) (hk : ∀ (u3 u4 u5 : Option zv) (i2 : Int) (h : zH), zQV w p l e (zRm 7 162) s m args below meth c 6 qU (k i2 h) 66 [some (.inr (8, a0)), some (.inl i1), some (.inl i2), u3, u4, u5] [] h) (n : Nat) (u3 u4 u5 : Option zv) (i2 : Int) (h : zH), zQV w p l e (zRm 7 162) s m args below meth c 6 qU (q_X8_passes_L19 a0 i1 k n i2 h) 19 [some (.inr (8, a0)), some (.inl i1), some (.inl i2), u3, u4, u5] [] h := by
    intro a0 i1 k hk n
    induction n with
    | zero =>
      intro u3 u4 u5 i2 h
      exact q_none
    | succ n ih =>
      intro u3 u4 u5 i2 h
      rw [q_X8_passes_L19]
      refine q_iload_n C dX8_passes_19 rfl ?_
      refine q_aload_n C dX8_passes_20 rfl ?_
      refine q_getR C dX8_passes_21 fl8_13 rfl ?_
      refine q_bipush C dX8_passes_24 (by decide) rfl ?_
      refine q_ialdN (j := 62) C dX8_passes_26 ⟨by decide, by decide, rfl⟩ rfl (by decide) ?_
      refine q_icmp_ge C dX8_passes_27 (tgt := 66) (by decide) ?_ ?_
      · exact hk _ _ _ i2 h
      · refine q_aload_n C dX8_passes_30 rfl ?_
        refine q_iload_n C dX8_passes_31 rfl ?_
        refine q_iload_n C dX8_passes_32 rfl ?_
        refine q_callVU C dX8_passes_33 mv8_281 (cq_X8_strays w l h _ _ _) rfl ⟨by decide, by decide⟩ ⟨rfl, Nat.le_of_ble_eq_true rfl⟩ (fun _ h3 => ?_)
        refine q_aload_n C dX8_passes_36 rfl ?_
        refine q_getR C dX8_passes_37 fl8_19 rfl ?_
        refine q_bipush C dX8_passes_40 (by decide) rfl ?_
        refine q_iload_n C dX8_passes_42 rfl ?_
        refine q_iadd C dX8_passes_43 ?_
        refine q_aload_n C dX8_passes_44 rfl ?_
        refine q_iload_n C dX8_passes_45 rfl ?_
        refine q_aload_n C dX8_passes_46 rfl ?_
        refine q_getR C dX8_passes_47 fl8_19 rfl ?_
        refine q_bipush C dX8_passes_50 (by decide) rfl ?_
        refine q_iload_n C dX8_passes_52 rfl ?_
        refine q_iadd C dX8_passes_53 ?_
        refine q_iald C dX8_passes_54 ⟨by decide, by decide, rfl⟩ ?_
        refine q_iload_n C dX8_passes_55 rfl ?_
        refine q_pcallVI C dX8_passes_56 mv8_284 (cq_X8_moved w l h3 _ _ _ _) rfl ⟨by decide, by decide⟩ ⟨rfl, Nat.le_of_ble_eq_true rfl⟩ (fun x4 => ?_)
        refine q_iast C dX8_passes_59 ⟨by decide, by decide, rfl⟩ (fun h5 => ?_)
        refine q_iincL C dX8_passes_60 rfl (by decide) (fun x6 => ?_)
        refine q_goto C dX8_passes_63 (tgt := 19) (by decide) ?_
        exact ih _ _ _ x6 h5
  have L70 : ∀ (a0 : Nat) (i1 : Int) (k : Int → Int → zH → Option (Unit × zH)) (hk : ∀ (u4 u5 : Option zv) (i2 : Int) (i3 : Int) (h : zH), zQV w p l e (zRm 7 162) s m args below meth c 6 qU (k i2 i3 h) 126 [some (.inr (8, a0)), some (.inl i1), some (.inl i2), some (.inl i3), u4, u5] [] h) (n : Nat) (u4 u5 : Option zv) (i2 : Int) (i3 : Int) (h : zH), zQV w p l e (zRm 7 162) s m args below meth c 6 qU (q_X8_passes_L70 a0 i1 k n i2 i3 h) 70 [some (.inr (8, a0)), some (.inl i1), some (.inl i2), some (.inl i3), u4, u5] [] h := by
    intro a0 i1 k hk n
    induction n with
    | zero =>
      intro u4 u5 i2 i3 h
      exact q_none
    | succ n ih =>
      intro u4 u5 i2 i3 h
      rw [q_X8_passes_L70]
      refine q_iload_n C dX8_passes_70 rfl ?_
      refine q_aload_n C dX8_passes_71 rfl ?_
      refine q_getR C dX8_passes_72 fl8_19 rfl ?_
      refine q_sipush C dX8_passes_75 (by decide) rfl ?_
      refine q_ialdN (j := 404) C dX8_passes_78 ⟨by decide, by decide, rfl⟩ rfl (by decide) ?_
      refine q_icmp_ge C dX8_passes_79 (tgt := 126) (by decide) ?_ ?_
      · exact hk _ _ i2 i3 h
      · refine q_aload_n C dX8_passes_82 rfl ?_
        refine q_iload_n C dX8_passes_83 rfl ?_
        refine q_pcallVI C dX8_passes_84 mv8_203 (cq_X8_isActive w l h _ _) rfl ⟨by decide, by decide⟩ ⟨rfl, Nat.le_of_ble_eq_true rfl⟩ (fun x12 => ?_)
        refine q_if_ne C dX8_passes_87 (tgt := 93) (by decide) ?_ ?_
        · refine q_aload_n C dX8_passes_93 rfl ?_
          refine q_iload_n C dX8_passes_94 rfl ?_
          refine q_bipush C dX8_passes_95 (by decide) rfl ?_
          refine q_pcallVI C dX8_passes_97 mv8_200 (cq_X8_of w l h _ _ _) rfl ⟨by decide, by decide⟩ ⟨rfl, Nat.le_of_ble_eq_true rfl⟩ (fun x13 => ?_)
          refine q_iload_n C dX8_passes_100 rfl ?_
          refine q_icmp_gt C dX8_passes_101 (tgt := 114) (by decide) ?_ ?_
          · refine q_iload_n C dX8_passes_114 rfl ?_
            refine q_iconst C dX8_passes_115 rfl ?_
            refine q_iload_n C dX8_passes_116 rfl ?_
            refine q_ishl C dX8_passes_117 ?_
            refine q_ior C dX8_passes_118 ?_
            refine q_istore_nL C dX8_passes_119 (by decide) (fun x14 => ?_)
            refine q_iincL C dX8_passes_120 rfl (by decide) (fun x15 => ?_)
            refine q_goto C dX8_passes_123 (tgt := 70) (by decide) ?_
            exact ih _ _ x14 x15 h
          · refine q_aload_n C dX8_passes_104 rfl ?_
            refine q_iload_n C dX8_passes_105 rfl ?_
            refine q_iconst C dX8_passes_106 rfl ?_
            refine q_iconst C dX8_passes_107 rfl ?_
            refine q_callVU C dX8_passes_108 mv8_244 (cq_X8_put w l h _ _ _ _) rfl ⟨by decide, by decide⟩ ⟨rfl, Nat.le_of_ble_eq_true rfl⟩ (fun _ h16 => ?_)
            refine q_goto C dX8_passes_111 (tgt := 120) (by decide) ?_
            refine q_iincL C dX8_passes_120 rfl (by decide) (fun x17 => ?_)
            refine q_goto C dX8_passes_123 (tgt := 70) (by decide) ?_
            exact ih _ _ i2 x17 h16
        · refine q_goto C dX8_passes_90 (tgt := 120) (by decide) ?_
          refine q_iincL C dX8_passes_120 rfl (by decide) (fun x18 => ?_)
          refine q_goto C dX8_passes_123 (tgt := 70) (by decide) ?_
          exact ih _ _ i2 x18 h
  have L137 : ∀ (a0 : Nat) (i2 : Int) (k : Int → Int → zH → Option (Unit × zH)) (hk : ∀ (u1 u3 : Option zv) (i4 : Int) (i5 : Int) (h : zH), zQV w p l e (zRm 7 162) s m args below meth c 6 qU (k i4 i5 h) 209 [some (.inr (8, a0)), u1, some (.inl i2), u3, some (.inl i4), some (.inl i5)] [] h) (n : Nat) (u1 u3 : Option zv) (i4 : Int) (i5 : Int) (h : zH), zQV w p l e (zRm 7 162) s m args below meth c 6 qU (q_X8_passes_L137 a0 i2 k n i4 i5 h) 137 [some (.inr (8, a0)), u1, some (.inl i2), u3, some (.inl i4), some (.inl i5)] [] h := by
    intro a0 i2 k hk n
    induction n with
    | zero =>
      intro u1 u3 i4 i5 h
      exact q_none
    | succ n ih =>
      intro u1 u3 i4 i5 h
      rw [q_X8_passes_L137]
      refine q_iload C dX8_passes_137 rfl ?_
      refine q_aload_n C dX8_passes_139 rfl ?_
      refine q_getR C dX8_passes_140 fl8_19 rfl ?_
      refine q_sipush C dX8_passes_143 (by decide) rfl ?_
      refine q_ialdN (j := 404) C dX8_passes_146 ⟨by decide, by decide, rfl⟩ rfl (by decide) ?_
      refine q_icmp_ge C dX8_passes_147 (tgt := 209) (by decide) ?_ ?_
      · exact hk _ _ i4 i5 h
      · refine q_iload_n C dX8_passes_150 rfl ?_
        refine q_iload C dX8_passes_151 rfl ?_
        refine q_ishr C dX8_passes_153 ?_
        refine q_iconst C dX8_passes_154 rfl ?_
        refine q_iand C dX8_passes_155 ?_
        refine q_if_ne C dX8_passes_156 (tgt := 162) (by decide) ?_ ?_
        · refine q_aload_n C dX8_passes_162 rfl ?_
          refine q_iload C dX8_passes_163 rfl ?_
          refine q_pcallVI C dX8_passes_165 mv8_216 (cq_X8_marginNow w l h _ _) rfl ⟨by decide, by decide⟩ ⟨rfl, Nat.le_of_ble_eq_true rfl⟩ (fun x26 => ?_)
          refine q_if_ge C dX8_passes_168 (tgt := 189) (by decide) ?_ ?_
          · refine q_iload C dX8_passes_189 rfl ?_
            refine q_iconst C dX8_passes_191 rfl ?_
            refine q_aload_n C dX8_passes_192 rfl ?_
            refine q_iload C dX8_passes_193 rfl ?_
            refine q_iconst C dX8_passes_195 rfl ?_
            refine q_pcallVI C dX8_passes_196 mv8_200 (cq_X8_of w l h _ _ _) rfl ⟨by decide, by decide⟩ ⟨rfl, Nat.le_of_ble_eq_true rfl⟩ (fun x27 => ?_)
            refine q_ishl C dX8_passes_199 ?_
            refine q_ior C dX8_passes_200 ?_
            refine q_istoreL C dX8_passes_201 (by decide) (fun x28 => ?_)
            refine q_iincL C dX8_passes_203 rfl (by decide) (fun x29 => ?_)
            refine q_goto C dX8_passes_206 (tgt := 137) (by decide) ?_
            exact ih _ _ x28 x29 h
          · refine q_aload_n C dX8_passes_171 rfl ?_
            refine q_iload C dX8_passes_172 rfl ?_
            refine q_bipush C dX8_passes_174 (by decide) rfl ?_
            refine q_aload_n C dX8_passes_176 rfl ?_
            refine q_iload C dX8_passes_177 rfl ?_
            refine q_bipush C dX8_passes_179 (by decide) rfl ?_
            refine q_pcallVI C dX8_passes_181 mv8_200 (cq_X8_of w l h _ _ _) rfl ⟨by decide, by decide⟩ ⟨rfl, Nat.le_of_ble_eq_true rfl⟩ (fun x30 => ?_)
            refine q_iconst C dX8_passes_184 rfl ?_
            refine q_iadd C dX8_passes_185 ?_
            refine q_callVU C dX8_passes_186 mv8_244 (cq_X8_put w l h _ _ _ _) rfl ⟨by decide, by decide⟩ ⟨rfl, Nat.le_of_ble_eq_true rfl⟩ (fun _ h31 => ?_)
            refine q_iload C dX8_passes_189 rfl ?_
            refine q_iconst C dX8_passes_191 rfl ?_
            refine q_aload_n C dX8_passes_192 rfl ?_
            refine q_iload C dX8_passes_193 rfl ?_
            refine q_iconst C dX8_passes_195 rfl ?_
            refine q_pcallVI C dX8_passes_196 mv8_200 (cq_X8_of w l h31 _ _ _) rfl ⟨by decide, by decide⟩ ⟨rfl, Nat.le_of_ble_eq_true rfl⟩ (fun x32 => ?_)
            refine q_ishl C dX8_passes_199 ?_
            refine q_ior C dX8_passes_200 ?_
            refine q_istoreL C dX8_passes_201 (by decide) (fun x33 => ?_)
            refine q_iincL C dX8_passes_203 rfl (by decide) (fun x34 => ?_)
            refine q_goto C dX8_passes_206 (tgt := 137) (by decide) ?_
            exact ih _ _ x33 x34 h31
        · refine q_goto C dX8_passes_159 (tgt := 203) (by decide) ?_
          refine q_iincL C dX8_passes_203 rfl (by decide) (fun x35 => ?_)
          refine q_goto C dX8_passes_206 (tgt := 137) (by decide) ?_
          exact ih _ _ i4 x35 h
  have L212 : ∀ (a0 : Nat) (i4 : Int) (k : Int → zH → Option (Unit × zH)) (hk : ∀ (u1 u2 u3 : Option zv) (i5 : Int) (h : zH), zQV w p l e (zRm 7 162) s m args below meth c 6 qU (k i5 h) 268 [some (.inr (8, a0)), u1, u2, u3, some (.inl i4), some (.inl i5)] [] h) (n : Nat) (u1 u2 u3 : Option zv) (i5 : Int) (h : zH), zQV w p l e (zRm 7 162) s m args below meth c 6 qU (q_X8_passes_L212 a0 i4 k n i5 h) 212 [some (.inr (8, a0)), u1, u2, u3, some (.inl i4), some (.inl i5)] [] h := by
    intro a0 i4 k hk n
    induction n with
    | zero =>
      intro u1 u2 u3 i5 h
      exact q_none
    | succ n ih =>
      intro u1 u2 u3 i5 h
      rw [q_X8_passes_L212]
      refine q_iload C dX8_passes_212 rfl ?_
      refine q_aload_n C dX8_passes_214 rfl ?_
      refine q_getR C dX8_passes_215 fl8_13 rfl ?_
      refine q_bipush C dX8_passes_218 (by decide) rfl ?_
      refine q_ialdN (j := 62) C dX8_passes_220 ⟨by decide, by decide, rfl⟩ rfl (by decide) ?_
      refine q_icmp_ge C dX8_passes_221 (tgt := 268) (by decide) ?_ ?_
      · exact hk _ _ _ i5 h
      · refine q_aload_n C dX8_passes_224 rfl ?_
        refine q_getR C dX8_passes_225 fl8_19 rfl ?_
        refine q_bipush C dX8_passes_228 (by decide) rfl ?_
        refine q_iload C dX8_passes_230 rfl ?_
        refine q_iadd C dX8_passes_232 ?_
        refine q_dup2 C dX8_passes_233 ?_
        refine q_iald C dX8_passes_234 ⟨by decide, by decide, rfl⟩ ?_
        refine q_iload C dX8_passes_235 rfl ?_
        refine q_iload C dX8_passes_237 rfl ?_
        refine q_ishr C dX8_passes_239 ?_
        refine q_iconst C dX8_passes_240 rfl ?_
        refine q_iand C dX8_passes_241 ?_
        refine q_iconst C dX8_passes_242 rfl ?_
        refine q_icmp_ne C dX8_passes_243 (tgt := 259) (by decide) ?_ ?_
        · refine q_iconst C dX8_passes_259 rfl ?_
          refine q_iadd C dX8_passes_260 ?_
          refine q_iast C dX8_passes_261 ⟨by decide, by decide, rfl⟩ (fun h41 => ?_)
          refine q_iincL C dX8_passes_262 rfl (by decide) (fun x42 => ?_)
          refine q_goto C dX8_passes_265 (tgt := 212) (by decide) ?_
          exact ih _ _ _ x42 h41
        · refine q_aload_n C dX8_passes_246 rfl ?_
          refine q_iload C dX8_passes_247 rfl ?_
          refine q_pcallVI C dX8_passes_249 mv8_302 (cq_X8_isLate w l h _ _) rfl ⟨by decide, by decide⟩ ⟨rfl, Nat.le_of_ble_eq_true rfl⟩ (fun x43 => ?_)
          refine q_if_eq C dX8_passes_252 (tgt := 259) (by decide) ?_ ?_
          · refine q_iconst C dX8_passes_259 rfl ?_
            refine q_iadd C dX8_passes_260 ?_
            refine q_iast C dX8_passes_261 ⟨by decide, by decide, rfl⟩ (fun h44 => ?_)
            refine q_iincL C dX8_passes_262 rfl (by decide) (fun x45 => ?_)
            refine q_goto C dX8_passes_265 (tgt := 212) (by decide) ?_
            exact ih _ _ _ x45 h44
          · refine q_iconst C dX8_passes_255 rfl ?_
            refine q_goto C dX8_passes_256 (tgt := 260) (by decide) ?_
            refine q_iadd C dX8_passes_260 ?_
            refine q_iast C dX8_passes_261 ⟨by decide, by decide, rfl⟩ (fun h46 => ?_)
            refine q_iincL C dX8_passes_262 rfl (by decide) (fun x47 => ?_)
            refine q_goto C dX8_passes_265 (tgt := 212) (by decide) ?_
            exact ih _ _ _ x47 h46
  unfold q_X8_passes
  refine q_aload_n C dX8_passes_0 rfl ?_
  refine q_getR C dX8_passes_1 fl8_19 rfl ?_
  refine q_iconst C dX8_passes_4 rfl ?_
  refine q_dup2 C dX8_passes_5 ?_
  refine q_ialdN (j := 0) C dX8_passes_6 ⟨by decide, by decide, rfl⟩ rfl (by decide) ?_
  refine q_iconst C dX8_passes_7 rfl ?_
  refine q_iadd C dX8_passes_8 ?_
  refine q_iastN (j := 0) C dX8_passes_9 ⟨by decide, by decide, rfl⟩ rfl (by decide) (fun h1 => ?_)
  refine q_aload_n C dX8_passes_10 rfl ?_
  refine q_getR C dX8_passes_11 fl8_19 rfl ?_
  refine q_iconst C dX8_passes_14 rfl ?_
  refine q_ialdN (j := 0) C dX8_passes_15 ⟨by decide, by decide, rfl⟩ rfl (by decide) ?_
  refine q_istore_nL C dX8_passes_16 (by decide) (fun x2 => ?_)
  refine q_iconst C dX8_passes_17 rfl ?_
  refine q_istore_n C dX8_passes_18 (by decide) ?_
  refine L19 a_0 x2 _ ?_ zF _ _ _ 0 h1
  intro u9 u10 u11 x7 h8
  refine q_iconst C dX8_passes_66 rfl ?_
  refine q_istore_n C dX8_passes_67 (by decide) ?_
  refine q_iconst C dX8_passes_68 rfl ?_
  refine q_istore_n C dX8_passes_69 (by decide) ?_
  refine L70 a_0 x2 _ ?_ zF _ _ 0 0 h8
  intro u22 u23 x19 x20 h21
  refine q_aload_n C dX8_passes_126 rfl ?_
  refine q_callVI C dX8_passes_127 mv8_299 (cq_X8_serves w l h21 _) rfl ⟨by decide, by decide⟩ ⟨rfl, Nat.le_of_ble_eq_true rfl⟩ (fun x24 h25 => ?_)
  refine q_istore_n C dX8_passes_130 (by decide) ?_
  refine q_iconst C dX8_passes_131 rfl ?_
  refine q_istore C dX8_passes_132 (by decide) ?_
  refine q_iconst C dX8_passes_134 rfl ?_
  refine q_istore C dX8_passes_135 (by decide) ?_
  refine L137 a_0 x19 _ ?_ zF _ _ 0 0 h25
  intro u39 u40 x36 x37 h38
  refine q_iconst C dX8_passes_209 rfl ?_
  refine q_istore C dX8_passes_210 (by decide) ?_
  refine L212 a_0 x36 _ ?_ zF _ _ _ 0 h38
  intro u50 u51 u52 x48 h49
  exact q_vret C Z1 Z2 dX8_passes_268
def q_X8_framesToWait_L31 (a0 : Nat) (i1 : Int) (k : Int → zH → Option (Int × zH)) : Nat → Int → zH → Option (Int × zH)
  | 0, _, _ => none
  | n + 1, i2, h => if 200 ≤ i2 then (k i2 h) else (if 9999 ≤ h.1 (h.2 a0 5) 0 then (k i2 h) else (zbp (q_X8_isActive h a0 i1) (fun x6 => if x6 = 0 then (zbd (q_X8_passes h a0) (fun _ h7 => zlet (zw (i2 + 1)) (fun x8 => q_X8_framesToWait_L31 a0 i1 k n x8 h7))) else (k i2 h))))
def q_X8_framesToWait (h : zH) (a_0 : Nat) (x_1 : Int) : Option (Int × zH) := zbp (q_X8_isCall h a_0 x_1) (fun x1 => zbd (q_X8_checks h a_0 x1) (fun x2 h3 => if x2 = 0 then (some (0, h3)) else (zbp (q_X8_of h3 a_0 x_1 5) (fun x4 => if x4 = 0 then (zbd (q_X8_keepsOld h3 a_0) (fun _ h5 => q_X8_framesToWait_L31 a_0 x_1 (fun x9 h10 => zbp (q_X8_isActive h10 a_0 x_1) (fun x12 => zbd (q_X8_bringsOld h10 a_0) (fun _ h13 => if x12 = 0 then (some ((-1), h13)) else (some (x9, h13))))) zF 0 h5)) else (some ((-1), h3))))))
theorem cq_X8_framesToWait (w : zW) (l : Launch) (h : zH) (a_0 : Nat) (x_1 : Int) : zCq w l yX8_framesToWait cX8_framesToWait 4 (some .int) 8 187 [.inr (8, a_0), .inl x_1] h qI (q_X8_framesToWait h a_0 x_1) := by
  refine zCq.of (own := RX8) (loc := [some (.inr (8, a_0)), some (.inl x_1), none, none]) (by decide) rfl (Nat.le_of_ble_eq_true rfl) (fun k v hk => ?_) ?_
  · exact zloc_ok 2 rfl hk
  intro p e s m args below meth c C Z1 Z2
  have L31 : ∀ (a0 : Nat) (i1 : Int) (k : Int → zH → Option (Int × zH)) (hk : ∀ (u3 : Option zv) (i2 : Int) (h : zH), zQV w p l e (zRm 8 187) s m args below meth c 4 qI (k i2 h) 68 [some (.inr (8, a0)), some (.inl i1), some (.inl i2), u3] [] h) (n : Nat) (u3 : Option zv) (i2 : Int) (h : zH), zQV w p l e (zRm 8 187) s m args below meth c 4 qI (q_X8_framesToWait_L31 a0 i1 k n i2 h) 31 [some (.inr (8, a0)), some (.inl i1), some (.inl i2), u3] [] h := by
    intro a0 i1 k hk n
    induction n with
    | zero =>
      intro u3 i2 h
      exact q_none
    | succ n ih =>
      intro u3 i2 h
      rw [q_X8_framesToWait_L31]
      refine q_iload_n C dX8_framesToWait_31 rfl ?_
      refine q_sipush C dX8_framesToWait_32 (by decide) rfl ?_
      refine q_icmp_ge C dX8_framesToWait_35 (tgt := 68) (by decide) ?_ ?_
      · exact hk _ i2 h
      · refine q_aload_n C dX8_framesToWait_38 rfl ?_
        refine q_getR C dX8_framesToWait_39 fl8_19 rfl ?_
        refine q_iconst C dX8_framesToWait_42 rfl ?_
        refine q_ialdN (j := 0) C dX8_framesToWait_43 ⟨by decide, by decide, rfl⟩ rfl (by decide) ?_
        refine q_sipush C dX8_framesToWait_44 (by decide) rfl ?_
        refine q_icmp_ge C dX8_framesToWait_47 (tgt := 68) (by decide) ?_ ?_
        · exact hk _ i2 h
        · refine q_aload_n C dX8_framesToWait_50 rfl ?_
          refine q_iload_n C dX8_framesToWait_51 rfl ?_
          refine q_pcallVI C dX8_framesToWait_52 mv8_203 (cq_X8_isActive w l h _ _) rfl ⟨by decide, by decide⟩ ⟨rfl, Nat.le_of_ble_eq_true rfl⟩ (fun x6 => ?_)
          refine q_if_ne C dX8_framesToWait_55 (tgt := 68) (by decide) ?_ ?_
          · exact hk _ i2 h
          · refine q_aload_n C dX8_framesToWait_58 rfl ?_
            refine q_callVU C dX8_framesToWait_59 mv8_293 (cq_X8_passes w l h _) rfl ⟨by decide, by decide⟩ ⟨rfl, Nat.le_of_ble_eq_true rfl⟩ (fun _ h7 => ?_)
            refine q_iincL C dX8_framesToWait_62 rfl (by decide) (fun x8 => ?_)
            refine q_goto C dX8_framesToWait_65 (tgt := 31) (by decide) ?_
            exact ih _ x8 h7
  unfold q_X8_framesToWait
  refine q_aload_n C dX8_framesToWait_0 rfl ?_
  refine q_aload_n C dX8_framesToWait_1 rfl ?_
  refine q_iload_n C dX8_framesToWait_2 rfl ?_
  refine q_pcallVI C dX8_framesToWait_3 mv8_197 (cq_X8_isCall w l h _ _) rfl ⟨by decide, by decide⟩ ⟨rfl, Nat.le_of_ble_eq_true rfl⟩ (fun x1 => ?_)
  refine q_callVI C dX8_framesToWait_6 mv8_181 (cq_X8_checks w l h _ _) rfl ⟨by decide, by decide⟩ ⟨rfl, Nat.le_of_ble_eq_true rfl⟩ (fun x2 h3 => ?_)
  refine q_if_ne C dX8_framesToWait_9 (tgt := 14) (by decide) ?_ ?_
  · refine q_aload_n C dX8_framesToWait_14 rfl ?_
    refine q_iload_n C dX8_framesToWait_15 rfl ?_
    refine q_iconst C dX8_framesToWait_16 rfl ?_
    refine q_pcallVI C dX8_framesToWait_17 mv8_200 (cq_X8_of w l h3 _ _ _) rfl ⟨by decide, by decide⟩ ⟨rfl, Nat.le_of_ble_eq_true rfl⟩ (fun x4 => ?_)
    refine q_if_eq C dX8_framesToWait_20 (tgt := 25) (by decide) ?_ ?_
    · refine q_aload_n C dX8_framesToWait_25 rfl ?_
      refine q_callVU C dX8_framesToWait_26 mv8_166 (cq_X8_keepsOld w l h3 _) rfl ⟨by decide, by decide⟩ ⟨rfl, Nat.le_of_ble_eq_true rfl⟩ (fun _ h5 => ?_)
      refine q_iconst C dX8_framesToWait_29 rfl ?_
      refine q_istore_n C dX8_framesToWait_30 (by decide) ?_
      refine L31 a_0 x_1 _ ?_ zF _ 0 h5
      intro u11 x9 h10
      refine q_aload_n C dX8_framesToWait_68 rfl ?_
      refine q_iload_n C dX8_framesToWait_69 rfl ?_
      refine q_pcallVI C dX8_framesToWait_70 mv8_203 (cq_X8_isActive w l h10 _ _) rfl ⟨by decide, by decide⟩ ⟨rfl, Nat.le_of_ble_eq_true rfl⟩ (fun x12 => ?_)
      refine q_istore_n C dX8_framesToWait_73 (by decide) ?_
      refine q_aload_n C dX8_framesToWait_74 rfl ?_
      refine q_callVU C dX8_framesToWait_75 mv8_172 (cq_X8_bringsOld w l h10 _) rfl ⟨by decide, by decide⟩ ⟨rfl, Nat.le_of_ble_eq_true rfl⟩ (fun _ h13 => ?_)
      refine q_iload_n C dX8_framesToWait_78 rfl ?_
      refine q_if_eq C dX8_framesToWait_79 (tgt := 86) (by decide) ?_ ?_
      · refine q_iconst C dX8_framesToWait_86 rfl ?_
        exact q_iret C Z1 Z2 dX8_framesToWait_87
      · refine q_iload_n C dX8_framesToWait_82 rfl ?_
        refine q_goto C dX8_framesToWait_83 (tgt := 87) (by decide) ?_
        exact q_iret C Z1 Z2 dX8_framesToWait_87
    · refine q_iconst C dX8_framesToWait_23 rfl ?_
      exact q_iret C Z1 Z2 dX8_framesToWait_24
  · refine q_iconst C dX8_framesToWait_12 rfl ?_
    exact q_iret C Z1 Z2 dX8_framesToWait_13
def q_X8_clearFrame_L39 (a0 : Nat) (i1 : Int) (i2 : Int) (k : Int → Int → zH → Option (Int × zH)) : Nat → Int → Int → zH → Option (Int × zH)
  | 0, _, _, _ => none
  | n + 1, i3, i4, h => if 9999 < i4 then (k i3 i4 h) else (if zw (h.1 (h.2 a0 5) 0 + 200) < i4 then (k i3 i4 h) else (if i4 = h.1 (h.2 a0 5) 0 then (zbp (q_X8_margin h a0 i1 i3 i4) (fun x10 => if x10 < 0 then (zlet (zw (i4 + 1)) (fun x11 => q_X8_clearFrame_L39 a0 i1 i2 k n i3 x11 h)) else (some (i4, h)))) else (zbp (q_X8_moved h a0 i2 i3 i4) (fun x7 => zbp (q_X8_margin h a0 i1 x7 i4) (fun x8 => if x8 < 0 then (zlet (zw (i4 + 1)) (fun x9 => q_X8_clearFrame_L39 a0 i1 i2 k n x7 x9 h)) else (some (i4, h)))))))
def q_X8_clearFrame (h : zH) (a_0 : Nat) (x_1 : Int) : Option (Int × zH) := zbp (q_X8_isCall h a_0 x_1) (fun x1 => zbd (q_X8_checks h a_0 x1) (fun x2 h3 => if x2 = 0 then (some (0, h3)) else (zbp (q_X8_of h3 a_0 x_1 0) (fun x4 => zgi 597 (zw (8 + x4)) (zlet (h3.1 (h3.2 a_0 5) (zw (8 + x4)).toNat) (fun x5 => zlet (h3.1 (h3.2 a_0 5) 0) (fun x6 => q_X8_clearFrame_L39 a_0 x_1 x4 (fun x12 x13 h14 => some ((-1), h14)) zF x5 x6 h3)))))))
theorem cq_X8_clearFrame (w : zW) (l : Launch) (h : zH) (a_0 : Nat) (x_1 : Int) : zCq w l yX8_clearFrame cX8_clearFrame 5 (some .int) 2 97 [.inr (8, a_0), .inl x_1] h qI (q_X8_clearFrame h a_0 x_1) := by
  refine zCq.of (own := RX8) (loc := [some (.inr (8, a_0)), some (.inl x_1), none, none, none]) (by decide) rfl (Nat.le_of_ble_eq_true rfl) (fun k v hk => ?_) ?_
  · exact zloc_ok 3 rfl hk
  intro p e s m args below meth c C Z1 Z2
  have L39 : ∀ (a0 : Nat) (i1 : Int) (i2 : Int) (k : Int → Int → zH → Option (Int × zH)) (hk : ∀ (i3 : Int) (i4 : Int) (h : zH), zQV w p l e (zRm 2 97) s m args below meth c 5 qI (k i3 i4 h) 106 [some (.inr (8, a0)), some (.inl i1), some (.inl i2), some (.inl i3), some (.inl i4)] [] h) (n : Nat) (i3 : Int) (i4 : Int) (h : zH), zQV w p l e (zRm 2 97) s m args below meth c 5 qI (q_X8_clearFrame_L39 a0 i1 i2 k n i3 i4 h) 39 [some (.inr (8, a0)), some (.inl i1), some (.inl i2), some (.inl i3), some (.inl i4)] [] h := by
    intro a0 i1 i2 k hk n
    induction n with
    | zero =>
      intro i3 i4 h
      exact q_none
    | succ n ih =>
      intro i3 i4 h
      rw [q_X8_clearFrame_L39]
      refine q_iload C dX8_clearFrame_39 rfl ?_
      refine q_sipush C dX8_clearFrame_41 (by decide) rfl ?_
      refine q_icmp_gt C dX8_clearFrame_44 (tgt := 106) (by decide) ?_ ?_
      · exact hk i3 i4 h
      · refine q_iload C dX8_clearFrame_47 rfl ?_
        refine q_aload_n C dX8_clearFrame_49 rfl ?_
        refine q_getR C dX8_clearFrame_50 fl8_19 rfl ?_
        refine q_iconst C dX8_clearFrame_53 rfl ?_
        refine q_ialdN (j := 0) C dX8_clearFrame_54 ⟨by decide, by decide, rfl⟩ rfl (by decide) ?_
        refine q_sipush C dX8_clearFrame_55 (by decide) rfl ?_
        refine q_iadd C dX8_clearFrame_58 ?_
        refine q_icmp_gt C dX8_clearFrame_59 (tgt := 106) (by decide) ?_ ?_
        · exact hk i3 i4 h
        · refine q_iload C dX8_clearFrame_62 rfl ?_
          refine q_aload_n C dX8_clearFrame_64 rfl ?_
          refine q_getR C dX8_clearFrame_65 fl8_19 rfl ?_
          refine q_iconst C dX8_clearFrame_68 rfl ?_
          refine q_ialdN (j := 0) C dX8_clearFrame_69 ⟨by decide, by decide, rfl⟩ rfl (by decide) ?_
          refine q_icmp_ne C dX8_clearFrame_70 (tgt := 77) (by decide) ?_ ?_
          · refine q_aload_n C dX8_clearFrame_77 rfl ?_
            refine q_iload_n C dX8_clearFrame_78 rfl ?_
            refine q_iload_n C dX8_clearFrame_79 rfl ?_
            refine q_iload C dX8_clearFrame_80 rfl ?_
            refine q_pcallVI C dX8_clearFrame_82 mv8_284 (cq_X8_moved w l h _ _ _ _) rfl ⟨by decide, by decide⟩ ⟨rfl, Nat.le_of_ble_eq_true rfl⟩ (fun x7 => ?_)
            refine q_istore_n C dX8_clearFrame_85 (by decide) ?_
            refine q_aload_n C dX8_clearFrame_86 rfl ?_
            refine q_iload_n C dX8_clearFrame_87 rfl ?_
            refine q_iload_n C dX8_clearFrame_88 rfl ?_
            refine q_iload C dX8_clearFrame_89 rfl ?_
            refine q_pcallVI C dX8_clearFrame_91 mv8_212 (cq_X8_margin w l h _ _ _ _) rfl ⟨by decide, by decide⟩ ⟨rfl, Nat.le_of_ble_eq_true rfl⟩ (fun x8 => ?_)
            refine q_if_lt C dX8_clearFrame_94 (tgt := 100) (by decide) ?_ ?_
            · refine q_iincL C dX8_clearFrame_100 rfl (by decide) (fun x9 => ?_)
              refine q_goto C dX8_clearFrame_103 (tgt := 39) (by decide) ?_
              exact ih x7 x9 h
            · refine q_iload C dX8_clearFrame_97 rfl ?_
              exact q_iret C Z1 Z2 dX8_clearFrame_99
          · refine q_iload_n C dX8_clearFrame_73 rfl ?_
            refine q_goto C dX8_clearFrame_74 (tgt := 85) (by decide) ?_
            refine q_istore_n C dX8_clearFrame_85 (by decide) ?_
            refine q_aload_n C dX8_clearFrame_86 rfl ?_
            refine q_iload_n C dX8_clearFrame_87 rfl ?_
            refine q_iload_n C dX8_clearFrame_88 rfl ?_
            refine q_iload C dX8_clearFrame_89 rfl ?_
            refine q_pcallVI C dX8_clearFrame_91 mv8_212 (cq_X8_margin w l h _ _ _ _) rfl ⟨by decide, by decide⟩ ⟨rfl, Nat.le_of_ble_eq_true rfl⟩ (fun x10 => ?_)
            refine q_if_lt C dX8_clearFrame_94 (tgt := 100) (by decide) ?_ ?_
            · refine q_iincL C dX8_clearFrame_100 rfl (by decide) (fun x11 => ?_)
              refine q_goto C dX8_clearFrame_103 (tgt := 39) (by decide) ?_
              exact ih i3 x11 h
            · refine q_iload C dX8_clearFrame_97 rfl ?_
              exact q_iret C Z1 Z2 dX8_clearFrame_99
  unfold q_X8_clearFrame
  refine q_aload_n C dX8_clearFrame_0 rfl ?_
  refine q_aload_n C dX8_clearFrame_1 rfl ?_
  refine q_iload_n C dX8_clearFrame_2 rfl ?_
  refine q_pcallVI C dX8_clearFrame_3 mv8_197 (cq_X8_isCall w l h _ _) rfl ⟨by decide, by decide⟩ ⟨rfl, Nat.le_of_ble_eq_true rfl⟩ (fun x1 => ?_)
  refine q_callVI C dX8_clearFrame_6 mv8_181 (cq_X8_checks w l h _ _) rfl ⟨by decide, by decide⟩ ⟨rfl, Nat.le_of_ble_eq_true rfl⟩ (fun x2 h3 => ?_)
  refine q_if_ne C dX8_clearFrame_9 (tgt := 14) (by decide) ?_ ?_
  · refine q_aload_n C dX8_clearFrame_14 rfl ?_
    refine q_iload_n C dX8_clearFrame_15 rfl ?_
    refine q_iconst C dX8_clearFrame_16 rfl ?_
    refine q_pcallVI C dX8_clearFrame_17 mv8_200 (cq_X8_of w l h3 _ _ _) rfl ⟨by decide, by decide⟩ ⟨rfl, Nat.le_of_ble_eq_true rfl⟩ (fun x4 => ?_)
    refine q_istore_n C dX8_clearFrame_20 (by decide) ?_
    refine q_aload_n C dX8_clearFrame_21 rfl ?_
    refine q_getR C dX8_clearFrame_22 fl8_19 rfl ?_
    refine q_bipush C dX8_clearFrame_25 (by decide) rfl ?_
    refine q_iload_n C dX8_clearFrame_27 rfl ?_
    refine q_iadd C dX8_clearFrame_28 ?_
    refine q_iald C dX8_clearFrame_29 ⟨by decide, by decide, rfl⟩ ?_
    refine q_istore_nL C dX8_clearFrame_30 (by decide) (fun x5 => ?_)
    refine q_aload_n C dX8_clearFrame_31 rfl ?_
    refine q_getR C dX8_clearFrame_32 fl8_19 rfl ?_
    refine q_iconst C dX8_clearFrame_35 rfl ?_
    refine q_ialdN (j := 0) C dX8_clearFrame_36 ⟨by decide, by decide, rfl⟩ rfl (by decide) ?_
    refine q_istoreL C dX8_clearFrame_37 (by decide) (fun x6 => ?_)
    refine L39 a_0 x_1 x4 _ ?_ zF x5 x6 h3
    intro x12 x13 h14
    refine q_iconst C dX8_clearFrame_106 rfl ?_
    exact q_iret C Z1 Z2 dX8_clearFrame_107
  · refine q_iconst C dX8_clearFrame_12 rfl ?_
    exact q_iret C Z1 Z2 dX8_clearFrame_13
def q_X8_keeps_L54 (a0 : Nat) (k : Int → zH → Option (Unit × zH)) : Nat → Int → zH → Option (Unit × zH)
  | 0, _, _ => none
  | n + 1, i1, h => if 597 ≤ i1 then (k i1 h) else (zgi 597 i1 (zgi 5970 (zw (zw (597 * h.1 a0 8) + i1)) (zlet (zput h (h.2 a0 7) (zw (zw (597 * h.1 a0 8) + i1)).toNat (h.1 (h.2 a0 5) i1.toNat)) (fun h1 => zlet (zw (i1 + 1)) (fun x2 => q_X8_keeps_L54 a0 k n x2 h1)))))
def q_X8_keeps_L13 (a0 : Nat) (k : Int → zH → Option (Unit × zH)) : Nat → Int → zH → Option (Unit × zH)
  | 0, _, _ => none
  | n + 1, i1, h => if 5970 ≤ i1 then (k i1 h) else (zgi 5970 i1 (zgi 5970 (zw (i1 - 597)) (zlet (zput h (h.2 a0 7) (zw (i1 - 597)).toNat (h.1 (h.2 a0 7) i1.toNat)) (fun h6 => zlet (zw (i1 + 1)) (fun x7 => q_X8_keeps_L13 a0 k n x7 h6)))))
def q_X8_keeps (h : zH) (a_0 : Nat) : Option (Unit × zH) := if h.1 a_0 8 = 10 then (q_X8_keeps_L13 a_0 (fun x8 h9 => zlet (zput h9 a_0 8 (zw (h9.1 a_0 8 - 1))) (fun h10 => q_X8_keeps_L54 a_0 (fun x11 h12 => zlet (zput h12 a_0 8 (zw (h12.1 a_0 8 + 1))) (fun h13 => some ((), h13))) zF 0 h10)) zF 597 h) else (q_X8_keeps_L54 a_0 (fun x3 h4 => zlet (zput h4 a_0 8 (zw (h4.1 a_0 8 + 1))) (fun h5 => some ((), h5))) zF 0 h)
theorem cq_X8_keeps (w : zW) (l : Launch) (h : zH) (a_0 : Nat) : zCq w l yX8_keeps cX8_keeps 2 none 0 0 [.inr (8, a_0)] h qU (q_X8_keeps h a_0) := by
  refine zCq.of (own := RX8) (loc := [some (.inr (8, a_0)), none]) (by decide) rfl (Nat.le_of_ble_eq_true rfl) (fun k v hk => ?_) ?_
  · exact zloc_ok 1 rfl hk
  intro p e s m args below meth c C Z1 Z2
  have L54 : ∀ (a0 : Nat) (k : Int → zH → Option (Unit × zH)) (hk : ∀ (i1 : Int) (h : zH), zQV w p l e (zRm 0 0) s m args below meth c 2 qU (k i1 h) 88 [some (.inr (8, a0)), some (.inl i1)] [] h) (n : Nat) (i1 : Int) (h : zH), zQV w p l e (zRm 0 0) s m args below meth c 2 qU (q_X8_keeps_L54 a0 k n i1 h) 54 [some (.inr (8, a0)), some (.inl i1)] [] h := by
    intro a0 k hk n
    induction n with
    | zero =>
      intro i1 h
      exact q_none
    | succ n ih =>
      intro i1 h
      rw [q_X8_keeps_L54]
      refine q_iload_n C dX8_keeps_54 rfl ?_
      refine q_sipush C dX8_keeps_55 (by decide) rfl ?_
      refine q_icmp_ge C dX8_keeps_58 (tgt := 88) (by decide) ?_ ?_
      · exact hk i1 h
      · refine q_aload_n C dX8_keeps_61 rfl ?_
        refine q_getR C dX8_keeps_62 fl8_25 rfl ?_
        refine q_sipush C dX8_keeps_65 (by decide) rfl ?_
        refine q_aload_n C dX8_keeps_68 rfl ?_
        refine q_getI C dX8_keeps_69 fl8_175 rfl ?_
        refine q_imul C dX8_keeps_72 ?_
        refine q_iload_n C dX8_keeps_73 rfl ?_
        refine q_iadd C dX8_keeps_74 ?_
        refine q_aload_n C dX8_keeps_75 rfl ?_
        refine q_getR C dX8_keeps_76 fl8_19 rfl ?_
        refine q_iload_n C dX8_keeps_79 rfl ?_
        refine q_iald C dX8_keeps_80 ⟨by decide, by decide, rfl⟩ ?_
        refine q_iast C dX8_keeps_81 ⟨by decide, by decide, rfl⟩ (fun h1 => ?_)
        refine q_iincL C dX8_keeps_82 rfl (by decide) (fun x2 => ?_)
        refine q_goto C dX8_keeps_85 (tgt := 54) (by decide) ?_
        exact ih x2 h1
  have L13 : ∀ (a0 : Nat) (k : Int → zH → Option (Unit × zH)) (hk : ∀ (i1 : Int) (h : zH), zQV w p l e (zRm 0 0) s m args below meth c 2 qU (k i1 h) 42 [some (.inr (8, a0)), some (.inl i1)] [] h) (n : Nat) (i1 : Int) (h : zH), zQV w p l e (zRm 0 0) s m args below meth c 2 qU (q_X8_keeps_L13 a0 k n i1 h) 13 [some (.inr (8, a0)), some (.inl i1)] [] h := by
    intro a0 k hk n
    induction n with
    | zero =>
      intro i1 h
      exact q_none
    | succ n ih =>
      intro i1 h
      rw [q_X8_keeps_L13]
      refine q_iload_n C dX8_keeps_13 rfl ?_
      refine q_sipush C dX8_keeps_14 (by decide) rfl ?_
      refine q_icmp_ge C dX8_keeps_17 (tgt := 42) (by decide) ?_ ?_
      · exact hk i1 h
      · refine q_aload_n C dX8_keeps_20 rfl ?_
        refine q_getR C dX8_keeps_21 fl8_25 rfl ?_
        refine q_iload_n C dX8_keeps_24 rfl ?_
        refine q_sipush C dX8_keeps_25 (by decide) rfl ?_
        refine q_isub C dX8_keeps_28 ?_
        refine q_aload_n C dX8_keeps_29 rfl ?_
        refine q_getR C dX8_keeps_30 fl8_25 rfl ?_
        refine q_iload_n C dX8_keeps_33 rfl ?_
        refine q_iald C dX8_keeps_34 ⟨by decide, by decide, rfl⟩ ?_
        refine q_iast C dX8_keeps_35 ⟨by decide, by decide, rfl⟩ (fun h6 => ?_)
        refine q_iincL C dX8_keeps_36 rfl (by decide) (fun x7 => ?_)
        refine q_goto C dX8_keeps_39 (tgt := 13) (by decide) ?_
        exact ih x7 h6
  unfold q_X8_keeps
  refine q_aload_n C dX8_keeps_0 rfl ?_
  refine q_getI C dX8_keeps_1 fl8_175 rfl ?_
  refine q_bipush C dX8_keeps_4 (by decide) rfl ?_
  refine q_icmp_ne C dX8_keeps_6 (tgt := 52) (by decide) ?_ ?_
  · refine q_iconst C dX8_keeps_52 rfl ?_
    refine q_istore_n C dX8_keeps_53 (by decide) ?_
    refine L54 a_0 _ ?_ zF 0 h
    intro x3 h4
    refine q_aload_n C dX8_keeps_88 rfl ?_
    refine q_dup C dX8_keeps_89 ?_
    refine q_getI C dX8_keeps_90 fl8_175 rfl ?_
    refine q_iconst C dX8_keeps_93 rfl ?_
    refine q_iadd C dX8_keeps_94 ?_
    refine q_putI C dX8_keeps_95 pl8_175 rfl (fun h5 => ?_)
    exact q_vret C Z1 Z2 dX8_keeps_98
  · refine q_sipush C dX8_keeps_9 (by decide) rfl ?_
    refine q_istore_n C dX8_keeps_12 (by decide) ?_
    refine L13 a_0 _ ?_ zF 597 h
    intro x8 h9
    refine q_aload_n C dX8_keeps_42 rfl ?_
    refine q_dup C dX8_keeps_43 ?_
    refine q_getI C dX8_keeps_44 fl8_175 rfl ?_
    refine q_iconst C dX8_keeps_47 rfl ?_
    refine q_isub C dX8_keeps_48 ?_
    refine q_putI C dX8_keeps_49 pl8_175 rfl (fun h10 => ?_)
    refine q_iconst C dX8_keeps_52 rfl ?_
    refine q_istore_n C dX8_keeps_53 (by decide) ?_
    refine L54 a_0 _ ?_ zF 0 h10
    intro x11 h12
    refine q_aload_n C dX8_keeps_88 rfl ?_
    refine q_dup C dX8_keeps_89 ?_
    refine q_getI C dX8_keeps_90 fl8_175 rfl ?_
    refine q_iconst C dX8_keeps_93 rfl ?_
    refine q_iadd C dX8_keeps_94 ?_
    refine q_putI C dX8_keeps_95 pl8_175 rfl (fun h13 => ?_)
    exact q_vret C Z1 Z2 dX8_keeps_98
def q_X8_undo_L26 (a0 : Nat) (k : Int → zH → Option (Int × zH)) : Nat → Int → zH → Option (Int × zH)
  | 0, _, _ => none
  | n + 1, i1, h => if 597 ≤ i1 then (k i1 h) else (zgi 5970 (zw (zw (597 * h.1 a0 8) + i1)) (zgi 597 i1 (zlet (zput h (h.2 a0 5) i1.toNat (h.1 (h.2 a0 7) (zw (zw (597 * h.1 a0 8) + i1)).toNat)) (fun h3 => zlet (zw (i1 + 1)) (fun x4 => q_X8_undo_L26 a0 k n x4 h3)))))
def q_X8_undo (h : zH) (a_0 : Nat) : Option (Int × zH) := zlet (zput h a_0 0 0) (fun h1 => if h1.1 a_0 8 = 0 then (some ((-1), h1)) else (zlet (zput h1 a_0 8 (zw (h1.1 a_0 8 - 1))) (fun h2 => q_X8_undo_L26 a_0 (fun x5 h6 => some (h6.1 a_0 8, h6)) zF 0 h2)))
theorem cq_X8_undo (w : zW) (l : Launch) (h : zH) (a_0 : Nat) : zCq w l yX8_undo cX8_undo 2 (some .int) 0 0 [.inr (8, a_0)] h qI (q_X8_undo h a_0) := by
  refine zCq.of (own := RX8) (loc := [some (.inr (8, a_0)), none]) (by decide) rfl (Nat.le_of_ble_eq_true rfl) (fun k v hk => ?_) ?_
  · exact zloc_ok 1 rfl hk
  intro p e s m args below meth c C Z1 Z2
  have L26 : ∀ (a0 : Nat) (k : Int → zH → Option (Int × zH)) (hk : ∀ (i1 : Int) (h : zH), zQV w p l e (zRm 0 0) s m args below meth c 2 qI (k i1 h) 60 [some (.inr (8, a0)), some (.inl i1)] [] h) (n : Nat) (i1 : Int) (h : zH), zQV w p l e (zRm 0 0) s m args below meth c 2 qI (q_X8_undo_L26 a0 k n i1 h) 26 [some (.inr (8, a0)), some (.inl i1)] [] h := by
    intro a0 k hk n
    induction n with
    | zero =>
      intro i1 h
      exact q_none
    | succ n ih =>
      intro i1 h
      rw [q_X8_undo_L26]
      refine q_iload_n C dX8_undo_26 rfl ?_
      refine q_sipush C dX8_undo_27 (by decide) rfl ?_
      refine q_icmp_ge C dX8_undo_30 (tgt := 60) (by decide) ?_ ?_
      · exact hk i1 h
      · refine q_aload_n C dX8_undo_33 rfl ?_
        refine q_getR C dX8_undo_34 fl8_19 rfl ?_
        refine q_iload_n C dX8_undo_37 rfl ?_
        refine q_aload_n C dX8_undo_38 rfl ?_
        refine q_getR C dX8_undo_39 fl8_25 rfl ?_
        refine q_sipush C dX8_undo_42 (by decide) rfl ?_
        refine q_aload_n C dX8_undo_45 rfl ?_
        refine q_getI C dX8_undo_46 fl8_175 rfl ?_
        refine q_imul C dX8_undo_49 ?_
        refine q_iload_n C dX8_undo_50 rfl ?_
        refine q_iadd C dX8_undo_51 ?_
        refine q_iald C dX8_undo_52 ⟨by decide, by decide, rfl⟩ ?_
        refine q_iast C dX8_undo_53 ⟨by decide, by decide, rfl⟩ (fun h3 => ?_)
        refine q_iincL C dX8_undo_54 rfl (by decide) (fun x4 => ?_)
        refine q_goto C dX8_undo_57 (tgt := 26) (by decide) ?_
        exact ih x4 h3
  unfold q_X8_undo
  refine q_aload_n C dX8_undo_0 rfl ?_
  refine q_iconst C dX8_undo_1 rfl ?_
  refine q_putI C dX8_undo_2 pl8_47 rfl (fun h1 => ?_)
  refine q_aload_n C dX8_undo_5 rfl ?_
  refine q_getI C dX8_undo_6 fl8_175 rfl ?_
  refine q_if_ne C dX8_undo_9 (tgt := 14) (by decide) ?_ ?_
  · refine q_aload_n C dX8_undo_14 rfl ?_
    refine q_dup C dX8_undo_15 ?_
    refine q_getI C dX8_undo_16 fl8_175 rfl ?_
    refine q_iconst C dX8_undo_19 rfl ?_
    refine q_isub C dX8_undo_20 ?_
    refine q_putI C dX8_undo_21 pl8_175 rfl (fun h2 => ?_)
    refine q_iconst C dX8_undo_24 rfl ?_
    refine q_istore_n C dX8_undo_25 (by decide) ?_
    refine L26 a_0 _ ?_ zF 0 h2
    intro x5 h6
    refine q_aload_n C dX8_undo_60 rfl ?_
    refine q_getI C dX8_undo_61 fl8_175 rfl ?_
    exact q_iret C Z1 Z2 dX8_undo_64
  · refine q_iconst C dX8_undo_12 rfl ?_
    exact q_iret C Z1 Z2 dX8_undo_13
def q_X8_request (h : zH) (a_0 : Nat) (x_1 : Int) (x_2 : Int) (x_3 : Int) (x_4 : Int) (x_5 : Int) : Option (Int × zH) := zlet (zput h a_0 0 0) (fun h1 => zbp (q_X8_isStation h1 a_0 x_1) (fun x2 => if x2 = 0 then (some ((-1), h1)) else (zbp (q_X8_isStation h1 a_0 x_2) (fun x3 => if x3 = 0 then (some ((-1), h1)) else (if x_1 = x_2 then (some ((-1), h1)) else (if x_3 < 0 then (some ((-2), h1)) else (if 9 < x_3 then (some ((-2), h1)) else (if x_4 < 1 then (some ((-2), h1)) else (if 2000 < x_4 then (some ((-2), h1)) else (if x_5 < 1 then (some ((-2), h1)) else (if x_5 ≤ 9999 then (if h1.1 (h1.2 a_0 5) 404 = 16 then (some ((-3), h1)) else (zbd (q_X8_keeps h1 a_0) (fun _ h4 => zlet (zput h4 a_0 25 (h4.1 (h4.2 a_0 3) 64)) (fun h5 => zbd (q_X8_asks h5 a_0 x_1 x_2 x_3 x_4 x_5) (fun x6 h7 => zbd (q_X8_assigns h7 a_0 x6) (fun x8 h9 => some (x6, h9))))))) else (some ((-2), h1)))))))))))))
theorem cq_X8_request (w : zW) (l : Launch) (h : zH) (a_0 : Nat) (x_1 : Int) (x_2 : Int) (x_3 : Int) (x_4 : Int) (x_5 : Int) : zCq w l yX8_request cX8_request 8 (some .int) 6 139 [.inr (8, a_0), .inl x_1, .inl x_2, .inl x_3, .inl x_4, .inl x_5] h qI (q_X8_request h a_0 x_1 x_2 x_3 x_4 x_5) := by
  refine zCq.of (own := RX8) (loc := [some (.inr (8, a_0)), some (.inl x_1), some (.inl x_2), some (.inl x_3), some (.inl x_4), some (.inl x_5), none, none]) (by decide) rfl (Nat.le_of_ble_eq_true rfl) (fun k v hk => ?_) ?_
  · exact zloc_ok 2 rfl hk
  intro p e s m args below meth c C Z1 Z2
  unfold q_X8_request
  refine q_aload_n C dX8_request_0 rfl ?_
  refine q_iconst C dX8_request_1 rfl ?_
  refine q_putI C dX8_request_2 pl8_47 rfl (fun h1 => ?_)
  refine q_aload_n C dX8_request_5 rfl ?_
  refine q_iload_n C dX8_request_6 rfl ?_
  refine q_pcallVI C dX8_request_7 mv8_178 (cq_X8_isStation w l h1 _ _) rfl ⟨by decide, by decide⟩ ⟨rfl, Nat.le_of_ble_eq_true rfl⟩ (fun x2 => ?_)
  refine q_if_eq C dX8_request_10 (tgt := 26) (by decide) ?_ ?_
  · refine q_iconst C dX8_request_26 rfl ?_
    exact q_iret C Z1 Z2 dX8_request_27
  · refine q_aload_n C dX8_request_13 rfl ?_
    refine q_iload_n C dX8_request_14 rfl ?_
    refine q_pcallVI C dX8_request_15 mv8_178 (cq_X8_isStation w l h1 _ _) rfl ⟨by decide, by decide⟩ ⟨rfl, Nat.le_of_ble_eq_true rfl⟩ (fun x3 => ?_)
    refine q_if_eq C dX8_request_18 (tgt := 26) (by decide) ?_ ?_
    · refine q_iconst C dX8_request_26 rfl ?_
      exact q_iret C Z1 Z2 dX8_request_27
    · refine q_iload_n C dX8_request_21 rfl ?_
      refine q_iload_n C dX8_request_22 rfl ?_
      refine q_icmp_ne C dX8_request_23 (tgt := 28) (by decide) ?_ ?_
      · refine q_iload_n C dX8_request_28 rfl ?_
        refine q_if_lt C dX8_request_29 (tgt := 66) (by decide) ?_ ?_
        · refine q_bipush C dX8_request_66 (by decide) rfl ?_
          exact q_iret C Z1 Z2 dX8_request_68
        · refine q_iload_n C dX8_request_32 rfl ?_
          refine q_bipush C dX8_request_33 (by decide) rfl ?_
          refine q_icmp_gt C dX8_request_35 (tgt := 66) (by decide) ?_ ?_
          · refine q_bipush C dX8_request_66 (by decide) rfl ?_
            exact q_iret C Z1 Z2 dX8_request_68
          · refine q_iload C dX8_request_38 rfl ?_
            refine q_iconst C dX8_request_40 rfl ?_
            refine q_icmp_lt C dX8_request_41 (tgt := 66) (by decide) ?_ ?_
            · refine q_bipush C dX8_request_66 (by decide) rfl ?_
              exact q_iret C Z1 Z2 dX8_request_68
            · refine q_iload C dX8_request_44 rfl ?_
              refine q_sipush C dX8_request_46 (by decide) rfl ?_
              refine q_icmp_gt C dX8_request_49 (tgt := 66) (by decide) ?_ ?_
              · refine q_bipush C dX8_request_66 (by decide) rfl ?_
                exact q_iret C Z1 Z2 dX8_request_68
              · refine q_iload C dX8_request_52 rfl ?_
                refine q_iconst C dX8_request_54 rfl ?_
                refine q_icmp_lt C dX8_request_55 (tgt := 66) (by decide) ?_ ?_
                · refine q_bipush C dX8_request_66 (by decide) rfl ?_
                  exact q_iret C Z1 Z2 dX8_request_68
                · refine q_iload C dX8_request_58 rfl ?_
                  refine q_sipush C dX8_request_60 (by decide) rfl ?_
                  refine q_icmp_le C dX8_request_63 (tgt := 69) (by decide) ?_ ?_
                  · refine q_aload_n C dX8_request_69 rfl ?_
                    refine q_getR C dX8_request_70 fl8_19 rfl ?_
                    refine q_sipush C dX8_request_73 (by decide) rfl ?_
                    refine q_ialdN (j := 404) C dX8_request_76 ⟨by decide, by decide, rfl⟩ rfl (by decide) ?_
                    refine q_bipush C dX8_request_77 (by decide) rfl ?_
                    refine q_icmp_ne C dX8_request_79 (tgt := 85) (by decide) ?_ ?_
                    · refine q_aload_n C dX8_request_85 rfl ?_
                      refine q_callVU C dX8_request_86 mv8_296 (cq_X8_keeps w l h1 _) rfl ⟨by decide, by decide⟩ ⟨rfl, Nat.le_of_ble_eq_true rfl⟩ (fun _ h4 => ?_)
                      refine q_aload_n C dX8_request_89 rfl ?_
                      refine q_aload_n C dX8_request_90 rfl ?_
                      refine q_getR C dX8_request_91 fl8_13 rfl ?_
                      refine q_bipush C dX8_request_94 (by decide) rfl ?_
                      refine q_ialdN (j := 64) C dX8_request_96 ⟨by decide, by decide, rfl⟩ rfl (by decide) ?_
                      refine q_putI C dX8_request_97 pl8_138 rfl (fun h5 => ?_)
                      refine q_aload_n C dX8_request_100 rfl ?_
                      refine q_iload_n C dX8_request_101 rfl ?_
                      refine q_iload_n C dX8_request_102 rfl ?_
                      refine q_iload_n C dX8_request_103 rfl ?_
                      refine q_iload C dX8_request_104 rfl ?_
                      refine q_iload C dX8_request_106 rfl ?_
                      refine q_callVI C dX8_request_108 mv8_141 (cq_X8_asks w l h5 _ _ _ _ _ _) rfl ⟨by decide, by decide⟩ ⟨rfl, Nat.le_of_ble_eq_true rfl⟩ (fun x6 h7 => ?_)
                      refine q_istore C dX8_request_111 (by decide) ?_
                      refine q_aload_n C dX8_request_113 rfl ?_
                      refine q_iload C dX8_request_114 rfl ?_
                      refine q_callVI C dX8_request_116 mv8_145 (cq_X8_assigns w l h7 _ _) rfl ⟨by decide, by decide⟩ ⟨rfl, Nat.le_of_ble_eq_true rfl⟩ (fun x8 h9 => ?_)
                      refine q_istore C dX8_request_119 (by decide) ?_
                      refine q_iload C dX8_request_121 rfl ?_
                      exact q_iret C Z1 Z2 dX8_request_123
                    · refine q_bipush C dX8_request_82 (by decide) rfl ?_
                      exact q_iret C Z1 Z2 dX8_request_84
                  · refine q_bipush C dX8_request_66 (by decide) rfl ?_
                    exact q_iret C Z1 Z2 dX8_request_68
      · refine q_iconst C dX8_request_26 rfl ?_
        exact q_iret C Z1 Z2 dX8_request_27
def q_X8_release (h : zH) (a_0 : Nat) (x_1 : Int) : Option (Int × zH) := zlet (zput h a_0 0 0) (fun h1 => zbp (q_X8_isCall h1 a_0 x_1) (fun x2 => if x2 = 0 then (some ((-1), h1)) else (zbp (q_X8_of h1 a_0 x_1 5) (fun x3 => if x3 = 2 then (some ((-1), h1)) else (zbd (q_X8_keeps h1 a_0) (fun _ h4 => zbd (q_X8_put h4 a_0 x_1 5 2) (fun _ h5 => zbd (q_X8_serves h5 a_0) (fun x6 h7 => some (x6, h7)))))))))
theorem cq_X8_release (w : zW) (l : Launch) (h : zH) (a_0 : Nat) (x_1 : Int) : zCq w l yX8_release cX8_release 2 (some .int) 7 162 [.inr (8, a_0), .inl x_1] h qI (q_X8_release h a_0 x_1) := by
  refine zCq.of (own := RX8) (loc := [some (.inr (8, a_0)), some (.inl x_1)]) (by decide) rfl (Nat.le_of_ble_eq_true rfl) (fun k v hk => ?_) ?_
  · exact zloc_ok 0 rfl hk
  intro p e s m args below meth c C Z1 Z2
  unfold q_X8_release
  refine q_aload_n C dX8_release_0 rfl ?_
  refine q_iconst C dX8_release_1 rfl ?_
  refine q_putI C dX8_release_2 pl8_47 rfl (fun h1 => ?_)
  refine q_aload_n C dX8_release_5 rfl ?_
  refine q_iload_n C dX8_release_6 rfl ?_
  refine q_pcallVI C dX8_release_7 mv8_197 (cq_X8_isCall w l h1 _ _) rfl ⟨by decide, by decide⟩ ⟨rfl, Nat.le_of_ble_eq_true rfl⟩ (fun x2 => ?_)
  refine q_if_eq C dX8_release_10 (tgt := 23) (by decide) ?_ ?_
  · refine q_iconst C dX8_release_23 rfl ?_
    exact q_iret C Z1 Z2 dX8_release_24
  · refine q_aload_n C dX8_release_13 rfl ?_
    refine q_iload_n C dX8_release_14 rfl ?_
    refine q_iconst C dX8_release_15 rfl ?_
    refine q_pcallVI C dX8_release_16 mv8_200 (cq_X8_of w l h1 _ _ _) rfl ⟨by decide, by decide⟩ ⟨rfl, Nat.le_of_ble_eq_true rfl⟩ (fun x3 => ?_)
    refine q_iconst C dX8_release_19 rfl ?_
    refine q_icmp_ne C dX8_release_20 (tgt := 25) (by decide) ?_ ?_
    · refine q_aload_n C dX8_release_25 rfl ?_
      refine q_callVU C dX8_release_26 mv8_296 (cq_X8_keeps w l h1 _) rfl ⟨by decide, by decide⟩ ⟨rfl, Nat.le_of_ble_eq_true rfl⟩ (fun _ h4 => ?_)
      refine q_aload_n C dX8_release_29 rfl ?_
      refine q_iload_n C dX8_release_30 rfl ?_
      refine q_iconst C dX8_release_31 rfl ?_
      refine q_iconst C dX8_release_32 rfl ?_
      refine q_callVU C dX8_release_33 mv8_244 (cq_X8_put w l h4 _ _ _ _) rfl ⟨by decide, by decide⟩ ⟨rfl, Nat.le_of_ble_eq_true rfl⟩ (fun _ h5 => ?_)
      refine q_aload_n C dX8_release_36 rfl ?_
      refine q_callVI C dX8_release_37 mv8_299 (cq_X8_serves w l h5 _) rfl ⟨by decide, by decide⟩ ⟨rfl, Nat.le_of_ble_eq_true rfl⟩ (fun x6 h7 => ?_)
      exact q_iret C Z1 Z2 dX8_release_40
    · refine q_iconst C dX8_release_23 rfl ?_
      exact q_iret C Z1 Z2 dX8_release_24
def q_X8_advance_L43 (a0 : Nat) (i1 : Int) (k : Int → zH → Option (Int × zH)) : Nat → Int → zH → Option (Int × zH)
  | 0, _, _ => none
  | n + 1, i2, h => if i1 ≤ i2 then (k i2 h) else (zbd (q_X8_passes h a0) (fun _ h3 => zlet (zw (i2 + 1)) (fun x4 => q_X8_advance_L43 a0 i1 k n x4 h3)))
def q_X8_advance (h : zH) (a_0 : Nat) (x_1 : Int) : Option (Int × zH) := zlet (zput h a_0 0 0) (fun h1 => if x_1 < 1 then (some ((-2), h1)) else (if x_1 ≤ 200 then (if zw (h1.1 (h1.2 a_0 5) 0 + x_1) ≤ 9999 then (zbd (q_X8_keeps h1 a_0) (fun _ h2 => q_X8_advance_L43 a_0 x_1 (fun x5 h6 => some (h6.1 (h6.2 a_0 5) 0, h6)) zF 0 h2)) else (some ((-3), h1))) else (some ((-2), h1))))
theorem cq_X8_advance (w : zW) (l : Launch) (h : zH) (a_0 : Nat) (x_1 : Int) : zCq w l yX8_advance cX8_advance 3 (some .int) 8 187 [.inr (8, a_0), .inl x_1] h qI (q_X8_advance h a_0 x_1) := by
  refine zCq.of (own := RX8) (loc := [some (.inr (8, a_0)), some (.inl x_1), none]) (by decide) rfl (Nat.le_of_ble_eq_true rfl) (fun k v hk => ?_) ?_
  · exact zloc_ok 1 rfl hk
  intro p e s m args below meth c C Z1 Z2
  have L43 : ∀ (a0 : Nat) (i1 : Int) (k : Int → zH → Option (Int × zH)) (hk : ∀ (i2 : Int) (h : zH), zQV w p l e (zRm 8 187) s m args below meth c 3 qI (k i2 h) 58 [some (.inr (8, a0)), some (.inl i1), some (.inl i2)] [] h) (n : Nat) (i2 : Int) (h : zH), zQV w p l e (zRm 8 187) s m args below meth c 3 qI (q_X8_advance_L43 a0 i1 k n i2 h) 43 [some (.inr (8, a0)), some (.inl i1), some (.inl i2)] [] h := by
    intro a0 i1 k hk n
    induction n with
    | zero =>
      intro i2 h
      exact q_none
    | succ n ih =>
      intro i2 h
      rw [q_X8_advance_L43]
      refine q_iload_n C dX8_advance_43 rfl ?_
      refine q_iload_n C dX8_advance_44 rfl ?_
      refine q_icmp_ge C dX8_advance_45 (tgt := 58) (by decide) ?_ ?_
      · exact hk i2 h
      · refine q_aload_n C dX8_advance_48 rfl ?_
        refine q_callVU C dX8_advance_49 mv8_293 (cq_X8_passes w l h _) rfl ⟨by decide, by decide⟩ ⟨rfl, Nat.le_of_ble_eq_true rfl⟩ (fun _ h3 => ?_)
        refine q_iincL C dX8_advance_52 rfl (by decide) (fun x4 => ?_)
        refine q_goto C dX8_advance_55 (tgt := 43) (by decide) ?_
        exact ih x4 h3
  unfold q_X8_advance
  refine q_aload_n C dX8_advance_0 rfl ?_
  refine q_iconst C dX8_advance_1 rfl ?_
  refine q_putI C dX8_advance_2 pl8_47 rfl (fun h1 => ?_)
  refine q_iload_n C dX8_advance_5 rfl ?_
  refine q_iconst C dX8_advance_6 rfl ?_
  refine q_icmp_lt C dX8_advance_7 (tgt := 17) (by decide) ?_ ?_
  · refine q_bipush C dX8_advance_17 (by decide) rfl ?_
    exact q_iret C Z1 Z2 dX8_advance_19
  · refine q_iload_n C dX8_advance_10 rfl ?_
    refine q_sipush C dX8_advance_11 (by decide) rfl ?_
    refine q_icmp_le C dX8_advance_14 (tgt := 20) (by decide) ?_ ?_
    · refine q_aload_n C dX8_advance_20 rfl ?_
      refine q_getR C dX8_advance_21 fl8_19 rfl ?_
      refine q_iconst C dX8_advance_24 rfl ?_
      refine q_ialdN (j := 0) C dX8_advance_25 ⟨by decide, by decide, rfl⟩ rfl (by decide) ?_
      refine q_iload_n C dX8_advance_26 rfl ?_
      refine q_iadd C dX8_advance_27 ?_
      refine q_sipush C dX8_advance_28 (by decide) rfl ?_
      refine q_icmp_le C dX8_advance_31 (tgt := 37) (by decide) ?_ ?_
      · refine q_aload_n C dX8_advance_37 rfl ?_
        refine q_callVU C dX8_advance_38 mv8_296 (cq_X8_keeps w l h1 _) rfl ⟨by decide, by decide⟩ ⟨rfl, Nat.le_of_ble_eq_true rfl⟩ (fun _ h2 => ?_)
        refine q_iconst C dX8_advance_41 rfl ?_
        refine q_istore_n C dX8_advance_42 (by decide) ?_
        refine L43 a_0 x_1 _ ?_ zF 0 h2
        intro x5 h6
        refine q_aload_n C dX8_advance_58 rfl ?_
        refine q_getR C dX8_advance_59 fl8_19 rfl ?_
        refine q_iconst C dX8_advance_62 rfl ?_
        refine q_ialdN (j := 0) C dX8_advance_63 ⟨by decide, by decide, rfl⟩ rfl (by decide) ?_
        exact q_iret C Z1 Z2 dX8_advance_64
      · refine q_bipush C dX8_advance_34 (by decide) rfl ?_
        exact q_iret C Z1 Z2 dX8_advance_36
    · refine q_bipush C dX8_advance_17 (by decide) rfl ?_
      exact q_iret C Z1 Z2 dX8_advance_19
def q_X8_setSetting (h : zH) (a_0 : Nat) (x_1 : Int) (x_2 : Int) : Option (Int × zH) := zlet (zput h a_0 0 0) (fun h1 => if x_1 < 4 then (some ((-2), h1)) else (if 6 < x_1 then (some ((-2), h1)) else (zbp (q_X8_leastOf h1 x_1) (fun x2 => if x_2 < x2 then (some ((-2), h1)) else (zbp (q_X8_mostOf h1 x_1) (fun x3 => if x_2 ≤ x3 then (zbd (q_X8_keeps h1 a_0) (fun _ h4 => zgi 597 (zw (1 + x_1)) (zlet (h4.1 (h4.2 a_0 5) (zw (1 + x_1)).toNat) (fun x5 => zgi 597 (zw (1 + x_1)) (zlet (zput h4 (h4.2 a_0 5) (zw (1 + x_1)).toNat x_2) (fun h6 => some (x5, h6))))))) else (some ((-2), h1))))))))
theorem cq_X8_setSetting (w : zW) (l : Launch) (h : zH) (a_0 : Nat) (x_1 : Int) (x_2 : Int) : zCq w l yX8_setSetting cX8_setSetting 4 (some .int) 1 21 [.inr (8, a_0), .inl x_1, .inl x_2] h qI (q_X8_setSetting h a_0 x_1 x_2) := by
  refine zCq.of (own := RX8) (loc := [some (.inr (8, a_0)), some (.inl x_1), some (.inl x_2), none]) (by decide) rfl (Nat.le_of_ble_eq_true rfl) (fun k v hk => ?_) ?_
  · exact zloc_ok 1 rfl hk
  intro p e s m args below meth c C Z1 Z2
  unfold q_X8_setSetting
  refine q_aload_n C dX8_setSetting_0 rfl ?_
  refine q_iconst C dX8_setSetting_1 rfl ?_
  refine q_putI C dX8_setSetting_2 pl8_47 rfl (fun h1 => ?_)
  refine q_iload_n C dX8_setSetting_5 rfl ?_
  refine q_iconst C dX8_setSetting_6 rfl ?_
  refine q_icmp_lt C dX8_setSetting_7 (tgt := 32) (by decide) ?_ ?_
  · refine q_bipush C dX8_setSetting_32 (by decide) rfl ?_
    exact q_iret C Z1 Z2 dX8_setSetting_34
  · refine q_iload_n C dX8_setSetting_10 rfl ?_
    refine q_bipush C dX8_setSetting_11 (by decide) rfl ?_
    refine q_icmp_gt C dX8_setSetting_13 (tgt := 32) (by decide) ?_ ?_
    · refine q_bipush C dX8_setSetting_32 (by decide) rfl ?_
      exact q_iret C Z1 Z2 dX8_setSetting_34
    · refine q_iload_n C dX8_setSetting_16 rfl ?_
      refine q_iload_n C dX8_setSetting_17 rfl ?_
      refine q_pcallSI C dX8_setSetting_18 ms8_148 (cq_X8_leastOf w l h1 _) rfl ⟨by decide, by decide⟩ ⟨rfl, Nat.le_of_ble_eq_true rfl⟩ (fun x2 => ?_)
      refine q_icmp_lt C dX8_setSetting_21 (tgt := 32) (by decide) ?_ ?_
      · refine q_bipush C dX8_setSetting_32 (by decide) rfl ?_
        exact q_iret C Z1 Z2 dX8_setSetting_34
      · refine q_iload_n C dX8_setSetting_24 rfl ?_
        refine q_iload_n C dX8_setSetting_25 rfl ?_
        refine q_pcallSI C dX8_setSetting_26 ms8_151 (cq_X8_mostOf w l h1 _) rfl ⟨by decide, by decide⟩ ⟨rfl, Nat.le_of_ble_eq_true rfl⟩ (fun x3 => ?_)
        refine q_icmp_le C dX8_setSetting_29 (tgt := 35) (by decide) ?_ ?_
        · refine q_aload_n C dX8_setSetting_35 rfl ?_
          refine q_callVU C dX8_setSetting_36 mv8_296 (cq_X8_keeps w l h1 _) rfl ⟨by decide, by decide⟩ ⟨rfl, Nat.le_of_ble_eq_true rfl⟩ (fun _ h4 => ?_)
          refine q_aload_n C dX8_setSetting_39 rfl ?_
          refine q_getR C dX8_setSetting_40 fl8_19 rfl ?_
          refine q_iconst C dX8_setSetting_43 rfl ?_
          refine q_iload_n C dX8_setSetting_44 rfl ?_
          refine q_iadd C dX8_setSetting_45 ?_
          refine q_iald C dX8_setSetting_46 ⟨by decide, by decide, rfl⟩ ?_
          refine q_istore_nL C dX8_setSetting_47 (by decide) (fun x5 => ?_)
          refine q_aload_n C dX8_setSetting_48 rfl ?_
          refine q_getR C dX8_setSetting_49 fl8_19 rfl ?_
          refine q_iconst C dX8_setSetting_52 rfl ?_
          refine q_iload_n C dX8_setSetting_53 rfl ?_
          refine q_iadd C dX8_setSetting_54 ?_
          refine q_iload_n C dX8_setSetting_55 rfl ?_
          refine q_iast C dX8_setSetting_56 ⟨by decide, by decide, rfl⟩ (fun h6 => ?_)
          refine q_iload_n C dX8_setSetting_57 rfl ?_
          exact q_iret C Z1 Z2 dX8_setSetting_58
        · refine q_bipush C dX8_setSetting_32 (by decide) rfl ?_
          exact q_iret C Z1 Z2 dX8_setSetting_34
def q_X8_acquire_L21 (a0 : Nat) (i1 : Int) (k : Int → zH → Option (Int × zH)) : Nat → Int → zH → Option (Int × zH)
  | 0, _, _ => none
  | n + 1, i2, h => if 64 ≤ i2 then (k i2 h) else (zgi 597 (zw (zw (20 + zw (64 * i1)) + i2)) (zlet (zput h (h.2 a0 5) (zw (zw (20 + zw (64 * i1)) + i2)).toNat 0) (fun h4 => zlet (zw (i2 + 1)) (fun x5 => q_X8_acquire_L21 a0 i1 k n x5 h4))))
def q_X8_acquire (h : zH) (a_0 : Nat) (x_1 : Int) : Option (Int × zH) := zlet (zput h a_0 0 0) (fun h1 => zbp (q_X8_isStation h1 a_0 x_1) (fun x2 => if x2 = 0 then (some (0, h1)) else (zbd (q_X8_keeps h1 a_0) (fun _ h3 => q_X8_acquire_L21 a_0 x_1 (fun x6 h7 => some (1, h7)) zF 0 h3))))
theorem cq_X8_acquire (w : zW) (l : Launch) (h : zH) (a_0 : Nat) (x_1 : Int) : zCq w l yX8_acquire cX8_acquire 3 (some .boolean) 1 21 [.inr (8, a_0), .inl x_1] h qI (q_X8_acquire h a_0 x_1) := by
  refine zCq.of (own := RX8) (loc := [some (.inr (8, a_0)), some (.inl x_1), none]) (by decide) rfl (Nat.le_of_ble_eq_true rfl) (fun k v hk => ?_) ?_
  · exact zloc_ok 1 rfl hk
  intro p e s m args below meth c C Z1 Z2
  have L21 : ∀ (a0 : Nat) (i1 : Int) (k : Int → zH → Option (Int × zH)) (hk : ∀ (i2 : Int) (h : zH), zQV w p l e (zRm 1 21) s m args below meth c 3 qI (k i2 h) 48 [some (.inr (8, a0)), some (.inl i1), some (.inl i2)] [] h) (n : Nat) (i2 : Int) (h : zH), zQV w p l e (zRm 1 21) s m args below meth c 3 qI (q_X8_acquire_L21 a0 i1 k n i2 h) 21 [some (.inr (8, a0)), some (.inl i1), some (.inl i2)] [] h := by
    intro a0 i1 k hk n
    induction n with
    | zero =>
      intro i2 h
      exact q_none
    | succ n ih =>
      intro i2 h
      rw [q_X8_acquire_L21]
      refine q_iload_n C dX8_acquire_21 rfl ?_
      refine q_bipush C dX8_acquire_22 (by decide) rfl ?_
      refine q_icmp_ge C dX8_acquire_24 (tgt := 48) (by decide) ?_ ?_
      · exact hk i2 h
      · refine q_aload_n C dX8_acquire_27 rfl ?_
        refine q_getR C dX8_acquire_28 fl8_19 rfl ?_
        refine q_bipush C dX8_acquire_31 (by decide) rfl ?_
        refine q_bipush C dX8_acquire_33 (by decide) rfl ?_
        refine q_iload_n C dX8_acquire_35 rfl ?_
        refine q_imul C dX8_acquire_36 ?_
        refine q_iadd C dX8_acquire_37 ?_
        refine q_iload_n C dX8_acquire_38 rfl ?_
        refine q_iadd C dX8_acquire_39 ?_
        refine q_iconst C dX8_acquire_40 rfl ?_
        refine q_iast C dX8_acquire_41 ⟨by decide, by decide, rfl⟩ (fun h4 => ?_)
        refine q_iincL C dX8_acquire_42 rfl (by decide) (fun x5 => ?_)
        refine q_goto C dX8_acquire_45 (tgt := 21) (by decide) ?_
        exact ih x5 h4
  unfold q_X8_acquire
  refine q_aload_n C dX8_acquire_0 rfl ?_
  refine q_iconst C dX8_acquire_1 rfl ?_
  refine q_putI C dX8_acquire_2 pl8_47 rfl (fun h1 => ?_)
  refine q_aload_n C dX8_acquire_5 rfl ?_
  refine q_iload_n C dX8_acquire_6 rfl ?_
  refine q_pcallVI C dX8_acquire_7 mv8_178 (cq_X8_isStation w l h1 _ _) rfl ⟨by decide, by decide⟩ ⟨rfl, Nat.le_of_ble_eq_true rfl⟩ (fun x2 => ?_)
  refine q_if_ne C dX8_acquire_10 (tgt := 15) (by decide) ?_ ?_
  · refine q_aload_n C dX8_acquire_15 rfl ?_
    refine q_callVU C dX8_acquire_16 mv8_296 (cq_X8_keeps w l h1 _) rfl ⟨by decide, by decide⟩ ⟨rfl, Nat.le_of_ble_eq_true rfl⟩ (fun _ h3 => ?_)
    refine q_iconst C dX8_acquire_19 rfl ?_
    refine q_istore_n C dX8_acquire_20 (by decide) ?_
    refine L21 a_0 x_1 _ ?_ zF 0 h3
    intro x6 h7
    refine q_iconst C dX8_acquire_48 rfl ?_
    exact q_zret C Z1 Z2 (Or.inr rfl) dX8_acquire_49
  · refine q_iconst C dX8_acquire_13 rfl ?_
    exact q_zret C Z1 Z2 (Or.inl rfl) dX8_acquire_14
def q_X8_compact_L31 (a0 : Nat) (k : Int → Int → zH → Option (Int × zH)) : Nat → Int → Int → zH → Option (Int × zH)
  | 0, _, _, _ => none
  | n + 1, i1, i2, h => if h.1 (h.2 a0 5) 404 ≤ i2 then (k i1 i2 h) else (zbp (q_X8_isActive h a0 i2) (fun x5 => if x5 = 0 then (zlet (zw (i2 + 1)) (fun x20 => q_X8_compact_L31 a0 k n i1 x20 h)) else (zbp (q_X8_of h a0 i2 6) (fun x6 => zgi 16 i2 (if x6 = h.1 (h.2 a0 23) i2.toNat then (zbp (q_X8_of h a0 i2 7) (fun x11 => zgi 16 i2 (if x11 = h.1 (h.2 a0 24) i2.toNat then (zlet (zw (i1 + 0)) (fun x12 => zgi 16 i2 (zbd (q_X8_put h a0 i2 6 (h.1 (h.2 a0 23) i2.toNat)) (fun _ h13 => zgi 16 i2 (zbd (q_X8_put h13 a0 i2 7 (h13.1 (h13.2 a0 24) i2.toNat)) (fun _ h14 => zlet (zw (i2 + 1)) (fun x15 => q_X8_compact_L31 a0 k n x12 x15 h14))))))) else (zlet (zw (i1 + 1)) (fun x16 => zgi 16 i2 (zbd (q_X8_put h a0 i2 6 (h.1 (h.2 a0 23) i2.toNat)) (fun _ h17 => zgi 16 i2 (zbd (q_X8_put h17 a0 i2 7 (h17.1 (h17.2 a0 24) i2.toNat)) (fun _ h18 => zlet (zw (i2 + 1)) (fun x19 => q_X8_compact_L31 a0 k n x16 x19 h18)))))))))) else (zlet (zw (i1 + 1)) (fun x7 => zgi 16 i2 (zbd (q_X8_put h a0 i2 6 (h.1 (h.2 a0 23) i2.toNat)) (fun _ h8 => zgi 16 i2 (zbd (q_X8_put h8 a0 i2 7 (h8.1 (h8.2 a0 24) i2.toNat)) (fun _ h9 => zlet (zw (i2 + 1)) (fun x10 => q_X8_compact_L31 a0 k n x7 x10 h9))))))))))))
def q_X8_compact (h : zH) (a_0 : Nat) : Option (Int × zH) := zlet (zput h a_0 0 0) (fun h1 => zbd (q_X8_findsAll h1 a_0 2 (h1.1 (h1.2 a_0 3) 64)) (fun x2 h3 => if x2 = 0 then (some ((-3), h3)) else (zbd (q_X8_keeps h3 a_0) (fun _ h4 => q_X8_compact_L31 a_0 (fun x21 x22 h23 => zbd (q_X8_serves h23 a_0) (fun x24 h25 => some (x21, h25))) zF 0 0 h4))))
theorem cq_X8_compact (w : zW) (l : Launch) (h : zH) (a_0 : Nat) : zCq w l yX8_compact cX8_compact 3 (some .int) 7 162 [.inr (8, a_0)] h qI (q_X8_compact h a_0) := by
  refine zCq.of (own := RX8) (loc := [some (.inr (8, a_0)), none, none]) (by decide) rfl (Nat.le_of_ble_eq_true rfl) (fun k v hk => ?_) ?_
  · exact zloc_ok 2 rfl hk
  intro p e s m args below meth c C Z1 Z2
  have L31 : ∀ (a0 : Nat) (k : Int → Int → zH → Option (Int × zH)) (hk : ∀ (i1 : Int) (i2 : Int) (h : zH), zQV w p l e (zRm 7 162) s m args below meth c 3 qI (k i1 i2 h) 126 [some (.inr (8, a0)), some (.inl i1), some (.inl i2)] [] h) (n : Nat) (i1 : Int) (i2 : Int) (h : zH), zQV w p l e (zRm 7 162) s m args below meth c 3 qI (q_X8_compact_L31 a0 k n i1 i2 h) 31 [some (.inr (8, a0)), some (.inl i1), some (.inl i2)] [] h := by
    intro a0 k hk n
    induction n with
    | zero =>
      intro i1 i2 h
      exact q_none
    | succ n ih =>
      intro i1 i2 h
      rw [q_X8_compact_L31]
      refine q_iload_n C dX8_compact_31 rfl ?_
      refine q_aload_n C dX8_compact_32 rfl ?_
      refine q_getR C dX8_compact_33 fl8_19 rfl ?_
      refine q_sipush C dX8_compact_36 (by decide) rfl ?_
      refine q_ialdN (j := 404) C dX8_compact_39 ⟨by decide, by decide, rfl⟩ rfl (by decide) ?_
      refine q_icmp_ge C dX8_compact_40 (tgt := 126) (by decide) ?_ ?_
      · exact hk i1 i2 h
      · refine q_aload_n C dX8_compact_43 rfl ?_
        refine q_iload_n C dX8_compact_44 rfl ?_
        refine q_pcallVI C dX8_compact_45 mv8_203 (cq_X8_isActive w l h _ _) rfl ⟨by decide, by decide⟩ ⟨rfl, Nat.le_of_ble_eq_true rfl⟩ (fun x5 => ?_)
        refine q_if_ne C dX8_compact_48 (tgt := 54) (by decide) ?_ ?_
        · refine q_iload_n C dX8_compact_54 rfl ?_
          refine q_aload_n C dX8_compact_55 rfl ?_
          refine q_iload_n C dX8_compact_56 rfl ?_
          refine q_bipush C dX8_compact_57 (by decide) rfl ?_
          refine q_pcallVI C dX8_compact_59 mv8_200 (cq_X8_of w l h _ _ _) rfl ⟨by decide, by decide⟩ ⟨rfl, Nat.le_of_ble_eq_true rfl⟩ (fun x6 => ?_)
          refine q_aload_n C dX8_compact_62 rfl ?_
          refine q_getR C dX8_compact_63 fl8_35 rfl ?_
          refine q_iload_n C dX8_compact_66 rfl ?_
          refine q_iald C dX8_compact_67 ⟨by decide, by decide, rfl⟩ ?_
          refine q_icmp_ne C dX8_compact_68 (tgt := 87) (by decide) ?_ ?_
          · refine q_iconst C dX8_compact_87 rfl ?_
            refine q_goto C dX8_compact_88 (tgt := 92) (by decide) ?_
            refine q_iadd C dX8_compact_92 ?_
            refine q_istore_nL C dX8_compact_93 (by decide) (fun x7 => ?_)
            refine q_aload_n C dX8_compact_94 rfl ?_
            refine q_iload_n C dX8_compact_95 rfl ?_
            refine q_bipush C dX8_compact_96 (by decide) rfl ?_
            refine q_aload_n C dX8_compact_98 rfl ?_
            refine q_getR C dX8_compact_99 fl8_35 rfl ?_
            refine q_iload_n C dX8_compact_102 rfl ?_
            refine q_iald C dX8_compact_103 ⟨by decide, by decide, rfl⟩ ?_
            refine q_callVU C dX8_compact_104 mv8_244 (cq_X8_put w l h _ _ _ _) rfl ⟨by decide, by decide⟩ ⟨rfl, Nat.le_of_ble_eq_true rfl⟩ (fun _ h8 => ?_)
            refine q_aload_n C dX8_compact_107 rfl ?_
            refine q_iload_n C dX8_compact_108 rfl ?_
            refine q_bipush C dX8_compact_109 (by decide) rfl ?_
            refine q_aload_n C dX8_compact_111 rfl ?_
            refine q_getR C dX8_compact_112 fl8_38 rfl ?_
            refine q_iload_n C dX8_compact_115 rfl ?_
            refine q_iald C dX8_compact_116 ⟨by decide, by decide, rfl⟩ ?_
            refine q_callVU C dX8_compact_117 mv8_244 (cq_X8_put w l h8 _ _ _ _) rfl ⟨by decide, by decide⟩ ⟨rfl, Nat.le_of_ble_eq_true rfl⟩ (fun _ h9 => ?_)
            refine q_iincL C dX8_compact_120 rfl (by decide) (fun x10 => ?_)
            refine q_goto C dX8_compact_123 (tgt := 31) (by decide) ?_
            exact ih x7 x10 h9
          · refine q_aload_n C dX8_compact_71 rfl ?_
            refine q_iload_n C dX8_compact_72 rfl ?_
            refine q_bipush C dX8_compact_73 (by decide) rfl ?_
            refine q_pcallVI C dX8_compact_75 mv8_200 (cq_X8_of w l h _ _ _) rfl ⟨by decide, by decide⟩ ⟨rfl, Nat.le_of_ble_eq_true rfl⟩ (fun x11 => ?_)
            refine q_aload_n C dX8_compact_78 rfl ?_
            refine q_getR C dX8_compact_79 fl8_38 rfl ?_
            refine q_iload_n C dX8_compact_82 rfl ?_
            refine q_iald C dX8_compact_83 ⟨by decide, by decide, rfl⟩ ?_
            refine q_icmp_eq C dX8_compact_84 (tgt := 91) (by decide) ?_ ?_
            · refine q_iconst C dX8_compact_91 rfl ?_
              refine q_iadd C dX8_compact_92 ?_
              refine q_istore_nL C dX8_compact_93 (by decide) (fun x12 => ?_)
              refine q_aload_n C dX8_compact_94 rfl ?_
              refine q_iload_n C dX8_compact_95 rfl ?_
              refine q_bipush C dX8_compact_96 (by decide) rfl ?_
              refine q_aload_n C dX8_compact_98 rfl ?_
              refine q_getR C dX8_compact_99 fl8_35 rfl ?_
              refine q_iload_n C dX8_compact_102 rfl ?_
              refine q_iald C dX8_compact_103 ⟨by decide, by decide, rfl⟩ ?_
              refine q_callVU C dX8_compact_104 mv8_244 (cq_X8_put w l h _ _ _ _) rfl ⟨by decide, by decide⟩ ⟨rfl, Nat.le_of_ble_eq_true rfl⟩ (fun _ h13 => ?_)
              refine q_aload_n C dX8_compact_107 rfl ?_
              refine q_iload_n C dX8_compact_108 rfl ?_
              refine q_bipush C dX8_compact_109 (by decide) rfl ?_
              refine q_aload_n C dX8_compact_111 rfl ?_
              refine q_getR C dX8_compact_112 fl8_38 rfl ?_
              refine q_iload_n C dX8_compact_115 rfl ?_
              refine q_iald C dX8_compact_116 ⟨by decide, by decide, rfl⟩ ?_
              refine q_callVU C dX8_compact_117 mv8_244 (cq_X8_put w l h13 _ _ _ _) rfl ⟨by decide, by decide⟩ ⟨rfl, Nat.le_of_ble_eq_true rfl⟩ (fun _ h14 => ?_)
              refine q_iincL C dX8_compact_120 rfl (by decide) (fun x15 => ?_)
              refine q_goto C dX8_compact_123 (tgt := 31) (by decide) ?_
              exact ih x12 x15 h14
            · refine q_iconst C dX8_compact_87 rfl ?_
              refine q_goto C dX8_compact_88 (tgt := 92) (by decide) ?_
              refine q_iadd C dX8_compact_92 ?_
              refine q_istore_nL C dX8_compact_93 (by decide) (fun x16 => ?_)
              refine q_aload_n C dX8_compact_94 rfl ?_
              refine q_iload_n C dX8_compact_95 rfl ?_
              refine q_bipush C dX8_compact_96 (by decide) rfl ?_
              refine q_aload_n C dX8_compact_98 rfl ?_
              refine q_getR C dX8_compact_99 fl8_35 rfl ?_
              refine q_iload_n C dX8_compact_102 rfl ?_
              refine q_iald C dX8_compact_103 ⟨by decide, by decide, rfl⟩ ?_
              refine q_callVU C dX8_compact_104 mv8_244 (cq_X8_put w l h _ _ _ _) rfl ⟨by decide, by decide⟩ ⟨rfl, Nat.le_of_ble_eq_true rfl⟩ (fun _ h17 => ?_)
              refine q_aload_n C dX8_compact_107 rfl ?_
              refine q_iload_n C dX8_compact_108 rfl ?_
              refine q_bipush C dX8_compact_109 (by decide) rfl ?_
              refine q_aload_n C dX8_compact_111 rfl ?_
              refine q_getR C dX8_compact_112 fl8_38 rfl ?_
              refine q_iload_n C dX8_compact_115 rfl ?_
              refine q_iald C dX8_compact_116 ⟨by decide, by decide, rfl⟩ ?_
              refine q_callVU C dX8_compact_117 mv8_244 (cq_X8_put w l h17 _ _ _ _) rfl ⟨by decide, by decide⟩ ⟨rfl, Nat.le_of_ble_eq_true rfl⟩ (fun _ h18 => ?_)
              refine q_iincL C dX8_compact_120 rfl (by decide) (fun x19 => ?_)
              refine q_goto C dX8_compact_123 (tgt := 31) (by decide) ?_
              exact ih x16 x19 h18
        · refine q_goto C dX8_compact_51 (tgt := 120) (by decide) ?_
          refine q_iincL C dX8_compact_120 rfl (by decide) (fun x20 => ?_)
          refine q_goto C dX8_compact_123 (tgt := 31) (by decide) ?_
          exact ih i1 x20 h
  unfold q_X8_compact
  refine q_aload_n C dX8_compact_0 rfl ?_
  refine q_iconst C dX8_compact_1 rfl ?_
  refine q_putI C dX8_compact_2 pl8_47 rfl (fun h1 => ?_)
  refine q_aload_n C dX8_compact_5 rfl ?_
  refine q_iconst C dX8_compact_6 rfl ?_
  refine q_aload_n C dX8_compact_7 rfl ?_
  refine q_getR C dX8_compact_8 fl8_13 rfl ?_
  refine q_bipush C dX8_compact_11 (by decide) rfl ?_
  refine q_ialdN (j := 64) C dX8_compact_13 ⟨by decide, by decide, rfl⟩ rfl (by decide) ?_
  refine q_callVI C dX8_compact_14 mv8_274 (cq_X8_findsAll w l h1 _ _ _) rfl ⟨by decide, by decide⟩ ⟨rfl, Nat.le_of_ble_eq_true rfl⟩ (fun x2 h3 => ?_)
  refine q_if_ne C dX8_compact_17 (tgt := 23) (by decide) ?_ ?_
  · refine q_aload_n C dX8_compact_23 rfl ?_
    refine q_callVU C dX8_compact_24 mv8_296 (cq_X8_keeps w l h3 _) rfl ⟨by decide, by decide⟩ ⟨rfl, Nat.le_of_ble_eq_true rfl⟩ (fun _ h4 => ?_)
    refine q_iconst C dX8_compact_27 rfl ?_
    refine q_istore_n C dX8_compact_28 (by decide) ?_
    refine q_iconst C dX8_compact_29 rfl ?_
    refine q_istore_n C dX8_compact_30 (by decide) ?_
    refine L31 a_0 _ ?_ zF 0 0 h4
    intro x21 x22 h23
    refine q_aload_n C dX8_compact_126 rfl ?_
    refine q_callVI C dX8_compact_127 mv8_299 (cq_X8_serves w l h23 _) rfl ⟨by decide, by decide⟩ ⟨rfl, Nat.le_of_ble_eq_true rfl⟩ (fun x24 h25 => ?_)
    refine q_istore_n C dX8_compact_130 (by decide) ?_
    refine q_iload_n C dX8_compact_131 rfl ?_
    exact q_iret C Z1 Z2 dX8_compact_132
  · refine q_bipush C dX8_compact_20 (by decide) rfl ?_
    exact q_iret C Z1 Z2 dX8_compact_22
