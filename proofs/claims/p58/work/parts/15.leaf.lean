theorem zloc_ok {loc : List (Option zv)} {av : List zv} (m : Nat) (hl : loc = av.map some ++ List.replicate m none) {k : Nat} {v : zv} (hk : loc[k]? = some (some v)) : av[k]? = some v := by
  subst hl
  by_cases h : k < av.length
  · rw [List.getElem?_append_left (by rw [List.length_map]; exact h), List.getElem?_map] at hk
    cases hq : av[k]? with
    | none => rw [hq] at hk; cases hk
    | some u => rw [hq] at hk; cases hk; rfl
  · rw [List.getElem?_append_right (by rw [List.length_map]; omega), List.length_map, List.getElem?_replicate] at hk
    split at hk <;> cases hk
noncomputable def bI (P : Prop) : Int := @ite Int P (Classical.propDecidable P) 1 0
theorem bI_pos {P : Prop} (h : P) : bI P = 1 := by unfold bI; rw [if_pos h]
theorem bI_neg {P : Prop} (h : ¬ P) : bI P = 0 := by unfold bI; rw [if_neg h]
theorem bI_eq0 {P : Prop} : bI P = 0 ↔ ¬ P := ⟨fun q z => by rw [bI_pos z] at q; exact absurd q (by decide), bI_neg⟩
theorem bI_eq1 {P : Prop} : bI P = 1 ↔ P := ⟨fun q => Classical.byContradiction fun z => by rw [bI_neg z] at q; exact absurd q (by decide), bI_pos⟩
theorem bI_01 (P : Prop) : bI P = 0 ∨ bI P = 1 := (Classical.em P).elim (fun h => Or.inr (bI_pos h)) (fun h => Or.inl (bI_neg h))
theorem bI_ite {P : Prop} (d : Decidable P) : bI P = if P then 1 else 0 := by
  by_cases h : P
  · rw [bI_pos h, if_pos h]
  · rw [bI_neg h, if_neg h]
def zushr (x y : Int) : Int := (((zi x).toUInt32 >>> ((zi y).toUInt32 &&& Int32.toUInt32 31)).toInt32).toInt

theorem v_iincR {w : zW} {p : Program} {l : Launch} {e : Env} {R : Room} {s : State} {m : MethodId} {args : Array Value} {below : List Frame} {meth : Method} {c : Code} {nL cells slots : Nat} {Q : State → Prop} {cc : ByteArray} {own : String} {pc : Nat} {loc : List (Option zv)} {stk : List zv} {h : zH} (C : zC w p s m args c nL cc own) {i : Nat} {n x : Int} (hd : decode cc pc = .ok (.iinc i n, 3)) (hi : loc[i]? = some (some (.inl x))) (hn : i < nL) (hr : zR (x + n))
    (kk : zV w p l e R s m args below meth c nL cells slots Q (pc + 3) (loc.set i (some (.inl (x + n)))) stk h) : zV w p l e R s m args below meth c nL cells slots Q pc loc stk h := by
  refine v_iinc C hd hi hn ?_
  rw [zw_id hr]
  exact kk
section ZVN
variable {w : zW} {p : Program} {l : Launch} {e : Env} {R : Room} {s : State} {m : MethodId} {args : Array Value} {below : List Frame} {meth : Method} {c : Code} {nL cells slots : Nat} {Q : State → Prop}
variable {cc : ByteArray} {own : String} {pc : Nat} {loc : List (Option zv)} {stk : List zv} {h : zH}
theorem v_ialdN (C : zC w p s m args c nL cc own) {k a n j : Nat} {i : Int} (hd : decode cc pc = .ok (.iaload, 1)) (hA : zIA k n .int) (hj : i = (j : Int)) (h1 : j < n)
    (kk : zV w p l e R s m args below meth c nL cells slots Q (pc + 1) loc (.inl (h.1 a j) :: stk) h) : zV w p l e R s m args below meth c nL cells slots Q pc loc (.inl i :: .inr (k, a) :: stk) h := by
  subst hj
  exact v_iald C hd hA (by omega) (by omega) (by rw [Int.toNat_natCast]; exact kk)
theorem v_baldN (C : zC w p s m args c nL cc own) {k a n j : Nat} {i : Int} (hd : decode cc pc = .ok (.baload, 1)) (hA : zIA k n .byte) (hj : i = (j : Int)) (h1 : j < n)
    (kk : zV w p l e R s m args below meth c nL cells slots Q (pc + 1) loc (.inl (h.1 a j) :: stk) h) : zV w p l e R s m args below meth c nL cells slots Q pc loc (.inl i :: .inr (k, a) :: stk) h := by
  subst hj
  exact v_bald C hd hA (by omega) (by omega) (by rw [Int.toNat_natCast]; exact kk)
theorem v_aaldN (C : zC w p s m args c nL cc own) {k a n k' j : Nat} {i : Int} (hd : decode cc pc = .ok (.aaload, 1)) (hA : zRA k n k') (hj : i = (j : Int)) (h1 : j < n)
    (kk : zV w p l e R s m args below meth c nL cells slots Q (pc + 1) loc (.inr (k', h.2 a j) :: stk) h) : zV w p l e R s m args below meth c nL cells slots Q pc loc (.inl i :: .inr (k, a) :: stk) h := by
  subst hj
  exact v_aald C hd hA (by omega) (by omega) (by rw [Int.toNat_natCast]; exact kk)
theorem v_iastN (C : zC w p s m args c nL cc own) {k a n j : Nat} {i x : Int} (hd : decode cc pc = .ok (.iastore, 1)) (hA : zIA k n .int) (hj : i = (j : Int)) (h1 : j < n)
    (kk : zV w p l e R s m args below meth c nL cells slots Q (pc + 1) loc stk (zput h a j x)) : zV w p l e R s m args below meth c nL cells slots Q pc loc (.inl x :: .inl i :: .inr (k, a) :: stk) h := by
  subst hj
  exact v_iast C hd hA (by omega) (by omega) (by rw [Int.toNat_natCast]; exact kk)
end ZVN
section ZVB
variable {w : zW} {p : Program} {l : Launch} {e : Env} {R : Room} {s : State} {m : MethodId} {args : Array Value} {below : List Frame} {meth : Method} {c : Code} {nL cells slots : Nat} {Q : State → Prop}
variable {cc : ByteArray} {own : String} {pc : Nat} {loc : List (Option zv)} {stk : List zv} {h : zH}
theorem v_ifb_eq (C : zC w p s m args c nL cc own) {P : Prop} {off : Int} {tgt : Nat} (hd : decode cc pc = .ok (.ifCond .eq off, 3)) (ht : (pc : Int) + off = (tgt : Int))
    (kt : ¬ P → zV w p l e R s m args below meth c nL cells slots Q tgt loc stk h) (kf : P → zV w p l e R s m args below meth c nL cells slots Q (pc + 3) loc stk h) : zV w p l e R s m args below meth c nL cells slots Q pc loc (.inl (bI P) :: stk) h :=
  v_if_eq C hd ht (fun q => kt (bI_eq0.mp q)) (fun q => kf (Classical.not_not.mp fun z => q (bI_eq0.mpr z)))
theorem v_ifb_ne (C : zC w p s m args c nL cc own) {P : Prop} {off : Int} {tgt : Nat} (hd : decode cc pc = .ok (.ifCond .ne off, 3)) (ht : (pc : Int) + off = (tgt : Int))
    (kt : P → zV w p l e R s m args below meth c nL cells slots Q tgt loc stk h) (kf : ¬ P → zV w p l e R s m args below meth c nL cells slots Q (pc + 3) loc stk h) : zV w p l e R s m args below meth c nL cells slots Q pc loc (.inl (bI P) :: stk) h :=
  v_if_ne C hd ht (fun q => kt (Classical.not_not.mp fun z => q (bI_eq0.mpr z))) (fun q => kf (bI_eq0.mp q))
theorem v_ldcw (C : zC w p s m args c nL cc own) {n : Int} {idx : Nat} (hd : decode cc pc = .ok (.ldc_w idx, 3)) (hm : Cond.constant own idx (zi n) ∈ zw_T) (hn : (decide (-2147483648 ≤ n) && decide (n < 2147483648)) = true)
    (kk : zV w p l e R s m args below meth c nL cells slots Q (pc + 3) loc (.inl n :: stk) h) : zV w p l e R s m args below meth c nL cells slots Q pc loc (stk) h := by
  intro H locs ls hR hS hl hk ho
  obtain ⟨hx, hb, hml, hown, hts, hK⟩ := C
  simp only [Bool.and_eq_true, decide_eq_true_eq] at hn
  exact lv_ldcw (v := zi n) hx hb hown (hts _ hm) hd (kk H locs ls hR hS hl (zok_cons hn hk) ho)
theorem v_iushr (C : zC w p s m args c nL cc own) {x y : Int} (hd : decode cc pc = .ok (.iushr, 1))
    (kk : zV w p l e R s m args below meth c nL cells slots Q (pc + 1) loc (.inl (zushr x y) :: stk) h) : zV w p l e R s m args below meth c nL cells slots Q pc loc (.inl y :: .inl x :: stk) h := by
  intro H locs ls hR hS hl hk ho
  obtain ⟨hx, hb, hml, hown, hts, hK⟩ := C
  refine lv_iushr (v := zi (zushr x y)) hx hb hd (zi_of _).symm ?_
  exact kk H locs ls hR hS hl (zok_cons (zR_of _) (zok_tl (zok_tl hk))) ho
end ZVB

theorem zCt.ofF {w : zW} {l : Launch} {y : MethodName} {b : ByteArray} {n : Nat} {ret : Option FieldType} {fr lo : Nat} {av : List zv} {h : zH} {post : Option zv → zH → Prop} {own : String} {loc : List (Option zv)}
    (hy : plainFor y = true) (ho : y.cls = own) (hn : av.length ≤ n) (hloc : ∀ (k : Nat) (v : zv), loc[k]? = some (some v) → av[k]? = some v)
    (body : ∀ p e s m args below meth c, zC w p s m args c n b own → meth.sig.returnType = ret → meth.locks = false → (∀ v ∈ av, zok w v) → zV w p l e (zRm fr lo) s m args below meth c n 0 0 (MQ below (zQ w post) args s 0 0 (zA w)) 0 loc [] h) : zCt w l y b n ret fr lo av h post := by
  intro hok
  refine va_MetF (cc := b) (maxL := n) (ret := ret) hy rfl ?_
  intro p e s m args below meth c s₁ B hml hv
  obtain ⟨rfl, hK, hR⟩ := hv
  have hts := atoms_spec (ws := Cond.code y b n ret :: zw_T) B.pre
  have hown : s.vm.findClass own = some m.cls := by rw [← ho]; exact findClass_of_methodNamed B.named
  have C : zC w p s m (av.map zval).toArray c n b own := ⟨B.exec, B.bytes, hml, hown, fun x hx => hts x (List.mem_cons_of_mem _ hx), hK⟩
  have hlen : (lg_sl (av.map zval)).length ≤ n := by rw [lv_args_len]; exact hn
  have hl := lv_entry (av.map zval) (n := n) hlen
  rw [lg_entry_eq]
  generalize (lg_sl (av.map zval) ++ List.replicate (n - (lg_sl (av.map zval)).length) Slot.unset).toArray = ls at hl ⊢
  rw [zlo_args] at hl
  have hav : ∀ (k : Nat) (v : zv), loc[k]? = some (some v) → (av.map some)[k]? = some (some v) := fun k v hk => by rw [List.getElem?_map, hloc k v hk]; rfl
  refine body p e s m _ below meth c C B.returns B.notSynchronized hok s.heap [] ls hR va_S.rf (zlo_sub hl fun q hq => ?_) (fun v hv => by cases hv) (fun v hv => ?_)
  · obtain ⟨k, v, h1, h2⟩ := zlo_mem.mp hq
    exact zlo_mem.mpr ⟨k, v, hav k v h1, h2⟩
  · obtain ⟨k, hk2⟩ := List.getElem?_of_mem hv
    exact hok v (List.mem_of_getElem? (hloc k v hk2))

theorem c_X0_endFrame (w : zW) (l : Launch) (h : zH) (a : Nat) : zCt w l yX0_endFrame cX0_endFrame 1 (some .int) 0 0 [.inr (0, a)] h (zFn (some (.inl (zw (h.1 a 9 + h.1 a 4)))) h) := by
  refine zCt.of (own := RX0) (loc := [some (.inr (0, a))]) (by decide) rfl (Nat.le_of_ble_eq_true rfl) (fun k v hk => ?_) ?_
  · exact zloc_ok 0 rfl hk
  intro p e s m args below meth c C Z1 Z2 ZA
  refine v_aload_n C dX0_endFrame_0 rfl ?_
  refine v_getI C dX0_endFrame_1 fl0_39 rfl ?_
  refine v_aload_n C dX0_endFrame_4 rfl ?_
  refine v_getI C dX0_endFrame_5 fl0_24 rfl ?_
  refine v_iadd C dX0_endFrame_8 ?_
  exact v_iret C Z1 Z2 dX0_endFrame_9 ⟨rfl, rfl⟩

theorem c_X0_isOn (w : zW) (l : Launch) (h : zH) (a : Nat) (k : Int) : zCt w l yX0_isOn cX0_isOn 2 (some .boolean) 0 0 [.inr (0, a), .inl k] h (zFn (some (.inl (bI (h.1 a 5 = 1 ∧ h.1 a 6 = k)))) h) := by
  refine zCt.of (own := RX0) (loc := [some (.inr (0, a)), some (.inl k)]) (by decide) rfl (Nat.le_of_ble_eq_true rfl) (fun k v hk => ?_) ?_
  · exact zloc_ok 0 rfl hk
  intro p e s m args below meth c C Z1 Z2 ZA
  refine v_aload_n C dX0_isOn_0 rfl ?_
  refine v_getI C dX0_isOn_1 fl0_27 rfl ?_
  refine v_iconst C dX0_isOn_4 rfl ?_
  refine v_icmp_ne C dX0_isOn_5 (tgt := 20) (by decide) (fun c5 => ?_) (fun c5 => ?_)
  · refine v_iconst C dX0_isOn_20 rfl ?_
    exact v_zret C Z1 Z2 (by decide) dX0_isOn_21 ⟨by first | rw [bI_pos (by omega)] | rw [bI_neg (by omega)], rfl⟩
  · refine v_aload_n C dX0_isOn_8 rfl ?_
    refine v_getI C dX0_isOn_9 fl0_30 rfl ?_
    refine v_iload_n C dX0_isOn_12 rfl ?_
    refine v_icmp_ne C dX0_isOn_13 (tgt := 20) (by decide) (fun c13 => ?_) (fun c13 => ?_)
    · refine v_iconst C dX0_isOn_20 rfl ?_
      exact v_zret C Z1 Z2 (by decide) dX0_isOn_21 ⟨by first | rw [bI_pos (by omega)] | rw [bI_neg (by omega)], rfl⟩
    · refine v_iconst C dX0_isOn_16 rfl ?_
      refine v_goto C dX0_isOn_17 (tgt := 21) (by decide) ?_
      exact v_zret C Z1 Z2 (by decide) dX0_isOn_21 ⟨by first | rw [bI_pos (by omega)] | rw [bI_neg (by omega)], rfl⟩

theorem c_X0_standsWhere (w : zW) (l : Launch) (h : zH) (a b : Nat) : zCt w l yX0_standsWhere cX0_standsWhere 2 (some .boolean) 0 0 [.inr (0, a), .inr (0, b)] h (zFn (some (.inl (bI (h.1 a 6 = h.1 b 6 ∧ h.1 a 7 = h.1 b 7)))) h) := by
  refine zCt.of (own := RX0) (loc := [some (.inr (0, a)), some (.inr (0, b))]) (by decide) rfl (Nat.le_of_ble_eq_true rfl) (fun k v hk => ?_) ?_
  · exact zloc_ok 0 rfl hk
  intro p e s m args below meth c C Z1 Z2 ZA
  refine v_aload_n C dX0_standsWhere_0 rfl ?_
  refine v_getI C dX0_standsWhere_1 fl0_30 rfl ?_
  refine v_aload_n C dX0_standsWhere_4 rfl ?_
  refine v_getI C dX0_standsWhere_5 fl0_30 rfl ?_
  refine v_icmp_ne C dX0_standsWhere_8 (tgt := 26) (by decide) (fun c8 => ?_) (fun c8 => ?_)
  · refine v_iconst C dX0_standsWhere_26 rfl ?_
    exact v_zret C Z1 Z2 (by decide) dX0_standsWhere_27 ⟨by first | rw [bI_pos (by omega)] | rw [bI_neg (by omega)], rfl⟩
  · refine v_aload_n C dX0_standsWhere_11 rfl ?_
    refine v_getI C dX0_standsWhere_12 fl0_33 rfl ?_
    refine v_aload_n C dX0_standsWhere_15 rfl ?_
    refine v_getI C dX0_standsWhere_16 fl0_33 rfl ?_
    refine v_icmp_ne C dX0_standsWhere_19 (tgt := 26) (by decide) (fun c19 => ?_) (fun c19 => ?_)
    · refine v_iconst C dX0_standsWhere_26 rfl ?_
      exact v_zret C Z1 Z2 (by decide) dX0_standsWhere_27 ⟨by first | rw [bI_pos (by omega)] | rw [bI_neg (by omega)], rfl⟩
    · refine v_iconst C dX0_standsWhere_22 rfl ?_
      refine v_goto C dX0_standsWhere_23 (tgt := 27) (by decide) ?_
      exact v_zret C Z1 Z2 (by decide) dX0_standsWhere_27 ⟨by first | rw [bI_pos (by omega)] | rw [bI_neg (by omega)], rfl⟩

theorem c_X0_conflictsWith (w : zW) (l : Launch) (h : zH) (a b : Nat) (k : Int) : zCt w l yX0_conflictsWith cX0_conflictsWith 3 (some .boolean) 0 0 [.inr (0, a), .inr (0, b), .inl k] h (zFn (some (.inl (bI (h.1 a 6 = k ∨ h.1 a 0 = h.1 b 0 ∨ h.1 a 1 = h.1 b 1)))) h) := by
  refine zCt.of (own := RX0) (loc := [some (.inr (0, a)), some (.inr (0, b)), some (.inl k)]) (by decide) rfl (Nat.le_of_ble_eq_true rfl) (fun k v hk => ?_) ?_
  · exact zloc_ok 0 rfl hk
  intro p e s m args below meth c C Z1 Z2 ZA
  refine v_aload_n C dX0_conflictsWith_0 rfl ?_
  refine v_getI C dX0_conflictsWith_1 fl0_30 rfl ?_
  refine v_iload_n C dX0_conflictsWith_4 rfl ?_
  refine v_icmp_eq C dX0_conflictsWith_5 (tgt := 30) (by decide) (fun c5 => ?_) (fun c5 => ?_)
  · refine v_iconst C dX0_conflictsWith_30 rfl ?_
    refine v_goto C dX0_conflictsWith_31 (tgt := 35) (by decide) ?_
    exact v_zret C Z1 Z2 (by decide) dX0_conflictsWith_35 ⟨by first | rw [bI_pos (by omega)] | rw [bI_neg (by omega)], rfl⟩
  · refine v_aload_n C dX0_conflictsWith_8 rfl ?_
    refine v_getI C dX0_conflictsWith_9 fl0_9 rfl ?_
    refine v_aload_n C dX0_conflictsWith_12 rfl ?_
    refine v_getI C dX0_conflictsWith_13 fl0_9 rfl ?_
    refine v_icmp_eq C dX0_conflictsWith_16 (tgt := 30) (by decide) (fun c16 => ?_) (fun c16 => ?_)
    · refine v_iconst C dX0_conflictsWith_30 rfl ?_
      refine v_goto C dX0_conflictsWith_31 (tgt := 35) (by decide) ?_
      exact v_zret C Z1 Z2 (by decide) dX0_conflictsWith_35 ⟨by first | rw [bI_pos (by omega)] | rw [bI_neg (by omega)], rfl⟩
    · refine v_aload_n C dX0_conflictsWith_19 rfl ?_
      refine v_getI C dX0_conflictsWith_20 fl0_15 rfl ?_
      refine v_aload_n C dX0_conflictsWith_23 rfl ?_
      refine v_getI C dX0_conflictsWith_24 fl0_15 rfl ?_
      refine v_icmp_ne C dX0_conflictsWith_27 (tgt := 34) (by decide) (fun c27 => ?_) (fun c27 => ?_)
      · refine v_iconst C dX0_conflictsWith_34 rfl ?_
        exact v_zret C Z1 Z2 (by decide) dX0_conflictsWith_35 ⟨by first | rw [bI_pos (by omega)] | rw [bI_neg (by omega)], rfl⟩
      · refine v_iconst C dX0_conflictsWith_30 rfl ?_
        refine v_goto C dX0_conflictsWith_31 (tgt := 35) (by decide) ?_
        exact v_zret C Z1 Z2 (by decide) dX0_conflictsWith_35 ⟨by first | rw [bI_pos (by omega)] | rw [bI_neg (by omega)], rfl⟩

theorem c_X7_inRange (w : zW) (l : Launch) (h : zH) (x lo hi : Int) : zCt w l yX7_inRange cX7_inRange 3 (some .boolean) 0 0 [.inl x, .inl lo, .inl hi] h (zFn (some (.inl (bI (lo ≤ x ∧ x ≤ hi)))) h) := by
  refine zCt.of (own := RX7) (loc := [some (.inl x), some (.inl lo), some (.inl hi)]) (by decide) rfl (Nat.le_of_ble_eq_true rfl) (fun k v hk => ?_) ?_
  · exact zloc_ok 0 rfl hk
  intro p e s m args below meth c C Z1 Z2 ZA
  refine v_iload_n C dX7_inRange_0 rfl ?_
  refine v_iload_n C dX7_inRange_1 rfl ?_
  refine v_icmp_lt C dX7_inRange_2 (tgt := 14) (by decide) (fun c2 => ?_) (fun c2 => ?_)
  · refine v_iconst C dX7_inRange_14 rfl ?_
    exact v_zret C Z1 Z2 (by decide) dX7_inRange_15 ⟨by first | rw [bI_pos (by omega)] | rw [bI_neg (by omega)], rfl⟩
  · refine v_iload_n C dX7_inRange_5 rfl ?_
    refine v_iload_n C dX7_inRange_6 rfl ?_
    refine v_icmp_gt C dX7_inRange_7 (tgt := 14) (by decide) (fun c7 => ?_) (fun c7 => ?_)
    · refine v_iconst C dX7_inRange_14 rfl ?_
      exact v_zret C Z1 Z2 (by decide) dX7_inRange_15 ⟨by first | rw [bI_pos (by omega)] | rw [bI_neg (by omega)], rfl⟩
    · refine v_iconst C dX7_inRange_10 rfl ?_
      refine v_goto C dX7_inRange_11 (tgt := 15) (by decide) ?_
      exact v_zret C Z1 Z2 (by decide) dX7_inRange_15 ⟨by first | rw [bI_pos (by omega)] | rw [bI_neg (by omega)], rfl⟩

def sBC (x : Int) : Int :=
  let a := zw (x - zand (zushr x 1) 1431655765)
  let b := zw (zand a 858993459 + zand (zushr a 2) 858993459)
  let c := zand (zw (b + zushr b 4)) 252645135
  let d := zw (c + zushr c 8)
  let f := zw (d + zushr d 16)
  zand f 63

theorem c_J6_bitCount (w : zW) (l : Launch) (h : zH) (x : Int) : zCt w l yJ6_bitCount_0f7a4 cJ6_bitCount_0f7a4 1 (some .int) 0 0 [.inl x] h (zFn (some (.inl (sBC x))) h) := by
  refine zCt.of (own := RJ6) (loc := [some (.inl x)]) (by decide) rfl (Nat.le_of_ble_eq_true rfl) (fun k v hk => ?_) ?_
  · exact zloc_ok 0 rfl hk
  intro p e s m args below meth c C Z1 Z2 ZA
  refine v_iload_n C dJ6_bitCount_0f7a4_0 rfl ?_
  refine v_iload_n C dJ6_bitCount_0f7a4_1 rfl ?_
  refine v_iconst C dJ6_bitCount_0f7a4_2 rfl ?_
  refine v_iushr C dJ6_bitCount_0f7a4_3 ?_
  refine v_ldcw (n := 1431655765) C dJ6_bitCount_0f7a4_4 (zmem 1111 (by decide +kernel)) rfl ?_
  refine v_iand C dJ6_bitCount_0f7a4_7 ?_
  refine v_isub C dJ6_bitCount_0f7a4_8 ?_
  refine v_istore_n C dJ6_bitCount_0f7a4_9 (by decide) ?_
  refine v_iload_n C dJ6_bitCount_0f7a4_10 rfl ?_
  refine v_ldcw (n := 858993459) C dJ6_bitCount_0f7a4_11 (zmem 1112 (by decide +kernel)) rfl ?_
  refine v_iand C dJ6_bitCount_0f7a4_14 ?_
  refine v_iload_n C dJ6_bitCount_0f7a4_15 rfl ?_
  refine v_iconst C dJ6_bitCount_0f7a4_16 rfl ?_
  refine v_iushr C dJ6_bitCount_0f7a4_17 ?_
  refine v_ldcw (n := 858993459) C dJ6_bitCount_0f7a4_18 (zmem 1112 (by decide +kernel)) rfl ?_
  refine v_iand C dJ6_bitCount_0f7a4_21 ?_
  refine v_iadd C dJ6_bitCount_0f7a4_22 ?_
  refine v_istore_n C dJ6_bitCount_0f7a4_23 (by decide) ?_
  refine v_iload_n C dJ6_bitCount_0f7a4_24 rfl ?_
  refine v_iload_n C dJ6_bitCount_0f7a4_25 rfl ?_
  refine v_iconst C dJ6_bitCount_0f7a4_26 rfl ?_
  refine v_iushr C dJ6_bitCount_0f7a4_27 ?_
  refine v_iadd C dJ6_bitCount_0f7a4_28 ?_
  refine v_ldcw (n := 252645135) C dJ6_bitCount_0f7a4_29 (zmem 1113 (by decide +kernel)) rfl ?_
  refine v_iand C dJ6_bitCount_0f7a4_32 ?_
  refine v_istore_n C dJ6_bitCount_0f7a4_33 (by decide) ?_
  refine v_iload_n C dJ6_bitCount_0f7a4_34 rfl ?_
  refine v_iload_n C dJ6_bitCount_0f7a4_35 rfl ?_
  refine v_bipush C dJ6_bitCount_0f7a4_36 (by decide) rfl ?_
  refine v_iushr C dJ6_bitCount_0f7a4_38 ?_
  refine v_iadd C dJ6_bitCount_0f7a4_39 ?_
  refine v_istore_n C dJ6_bitCount_0f7a4_40 (by decide) ?_
  refine v_iload_n C dJ6_bitCount_0f7a4_41 rfl ?_
  refine v_iload_n C dJ6_bitCount_0f7a4_42 rfl ?_
  refine v_bipush C dJ6_bitCount_0f7a4_43 (by decide) rfl ?_
  refine v_iushr C dJ6_bitCount_0f7a4_45 ?_
  refine v_iadd C dJ6_bitCount_0f7a4_46 ?_
  refine v_istore_n C dJ6_bitCount_0f7a4_47 (by decide) ?_
  refine v_iload_n C dJ6_bitCount_0f7a4_48 rfl ?_
  refine v_bipush C dJ6_bitCount_0f7a4_49 (by decide) rfl ?_
  refine v_iand C dJ6_bitCount_0f7a4_51 ?_
  exact v_iret C Z1 Z2 dJ6_bitCount_0f7a4_52 ⟨rfl, rfl⟩

def sFM (x y : Int) : Int := if zxor x y < 0 ∧ x.tmod y ≠ 0 then zw (x.tmod y + y) else x.tmod y

theorem c_J9_floorMod (w : zW) (l : Launch) (h : zH) (x y : Int) (hy : ¬ y = 0) : zCt w l yJ9_floorMod_7cf53 cJ9_floorMod_7cf53 3 (some .int) 0 0 [.inl x, .inl y] h (zFn (some (.inl (sFM x y))) h) := by
  refine zCt.ofF (own := RJ9) (loc := [some (.inl x), some (.inl y), none]) (by decide +kernel) rfl (Nat.le_of_ble_eq_true rfl) (fun k v hk => ?_) ?_
  · exact zloc_ok 1 rfl hk
  intro p e s m args below meth c C Z1 Z2 ZA
  refine v_iload_n C dJ9_floorMod_7cf53_0 rfl ?_
  refine v_iload_n C dJ9_floorMod_7cf53_1 rfl ?_
  refine v_irem C dJ9_floorMod_7cf53_2 hy ?_
  refine v_istore_n C dJ9_floorMod_7cf53_3 (by decide) ?_
  refine v_iload_n C dJ9_floorMod_7cf53_4 rfl ?_
  refine v_iload_n C dJ9_floorMod_7cf53_5 rfl ?_
  refine v_ixor C dJ9_floorMod_7cf53_6 ?_
  refine v_if_ge C dJ9_floorMod_7cf53_7 (tgt := 18) (by decide) (fun c7 => ?_) (fun c7 => ?_)
  · refine v_iload_n C dJ9_floorMod_7cf53_18 rfl ?_
    exact v_iret C Z1 Z2 dJ9_floorMod_7cf53_19 ⟨by unfold sFM; first | rw [if_pos (by omega)] | rw [if_neg (by omega)], rfl⟩
  · refine v_iload_n C dJ9_floorMod_7cf53_10 rfl ?_
    refine v_if_eq C dJ9_floorMod_7cf53_11 (tgt := 18) (by decide) (fun c11 => ?_) (fun c11 => ?_)
    · refine v_iload_n C dJ9_floorMod_7cf53_18 rfl ?_
      exact v_iret C Z1 Z2 dJ9_floorMod_7cf53_19 ⟨by unfold sFM; first | rw [if_pos (by omega)] | rw [if_neg (by omega)], rfl⟩
    · refine v_iload_n C dJ9_floorMod_7cf53_14 rfl ?_
      refine v_iload_n C dJ9_floorMod_7cf53_15 rfl ?_
      refine v_iadd C dJ9_floorMod_7cf53_16 ?_
      exact v_iret C Z1 Z2 dJ9_floorMod_7cf53_17 ⟨by unfold sFM; first | rw [if_pos (by omega)] | rw [if_neg (by omega)], rfl⟩

