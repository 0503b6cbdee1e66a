/-! What throws: the three checks, and the methods that begin with one. -/
def nmsX : List String := ["java/lang/RuntimeException", "java/lang/Exception"]
def zx_ix : List Nat := [85, 867, 876, 878, 881, 883, 868, 869, 96, 97, 870, 875, 879, 899, 857, 900, 859, 901, 861, 871, 873, 863, 895, 896, 898, 863, 886, 887, 888, 889, 849, 889, 890, 891, 892, 851, 892, 893, 894, 895, 853, 885, 846, 847, 854, 855, 856, 858, 860, 862, 866, 865, 864]
theorem zx_at0 : vx_atS RX7 279 zw_X nmsX = zx_ix.filterMap (fun i => lw_tbl[i]?) := by decide +kernel
theorem zx_at1 : ((zx_ix.filter (fun i => !(i == 847 || i == 849 || i == 851 || i == 853))).filterMap (fun i => lw_tbl[i]?)).all goodWord = true := by decide +kernel
theorem zx_at2 : [847, 849, 851, 853].filterMap (fun i => lw_tbl[i]?) = [.castable zw_X zw_X, .declares ⟨"java/lang/RuntimeException", "<init>", "(Ljava/lang/String;)V"⟩, .declares ⟨"java/lang/Exception", "<init>", "(Ljava/lang/String;)V"⟩, .declares ⟨"java/lang/Throwable", "<init>", "(Ljava/lang/String;)V"⟩] := by decide +kernel
theorem zx_at {w : zW} {s : State} {args : Array Value} (hts : ∀ x ∈ zw_T, x.before args s = true) (hK : zKn w s) : ∀ x ∈ vx_atS RX7 279 zw_X nmsX, x.before args s = true := by
  intro x hx
  rw [zx_at0] at hx
  obtain ⟨i, hi, hx⟩ := List.mem_filterMap.mp hx
  by_cases hs : (i == 847 || i == 849 || i == 851 || i == 853) = true
  · have hm : i ∈ [847, 849, 851, 853] := by
      simp only [Bool.or_eq_true, beq_iff_eq] at hs
      simp only [List.mem_cons, List.not_mem_nil, or_false]
      omega
    have hx2 : x ∈ [847, 849, 851, 853].filterMap (fun i => lw_tbl[i]?) := List.mem_filterMap.mpr ⟨i, hm, hx⟩
    rw [zx_at2] at hx2
    simp only [List.mem_cons, List.not_mem_nil, or_false] at hx2
    have hD := hK.2.1.2.2.2.1
    rcases hx2 with rfl | rfl | rfl | rfl
    · exact va_Nw.use rfl hK.2.1.2.2.2.2
    · exact va_Nw.use rfl (hD _ List.mem_cons_self)
    · exact va_Nw.use rfl (hD _ (List.mem_cons_of_mem _ List.mem_cons_self))
    · exact va_Nw.use rfl (hD _ (List.mem_cons_of_mem _ (List.mem_cons_of_mem _ List.mem_cons_self)))
  · have hx2 : x ∈ (zx_ix.filter (fun i => !(i == 847 || i == 849 || i == 851 || i == 853))).filterMap (fun i => lw_tbl[i]?) := List.mem_filterMap.mpr ⟨i, List.mem_filter.mpr ⟨hi, by simpa using hs⟩, hx⟩
    exact hts _ (List.mem_filter.mpr ⟨List.mem_of_getElem? hx, List.all_eq_true.mp zx_at1 x hx2⟩)
theorem zx_good : (Cond.classLink RX7 275 zw_X :: Cond.initialized zw_X :: vx_atS RX7 279 zw_X nmsX).all vx_ot = true := by decide +kernel
theorem zRel.grow {w : zW} {h : zH} {H H1 : Heap} (hR : zRel w h H) (hq : ∀ q : Nat, q < H.size → H1[q]? = H[q]?) : zRel w h H1 :=
  ⟨hR.1.kept fun k x hx => hq x.1 ((hR.1 k x hx).lt), hR.2.1, hR.2.2⟩
/-- what holds where a method has thrown -/
def zXC (w : zW) (h : zH) : String → State → State → Prop := fun E st t => E = zw_X ∧ zRel w h t.heap ∧ st.heap.size ≤ t.heap.size ∧ ∀ q : Nat, q < st.heap.size → ¬ zA w q → t.heap[q]? = st.heap[q]?
def zRm1 (fr lo : Nat) : Room := { frames := fr, cells := 1, slots := 6, locals := lo }
def zCx (w : zW) (l : Launch) (y : MethodName) (b : ByteArray) (n : Nat) (ret : Option FieldType) (fr lo : Nat) (av : List zv) (h : zH) : Prop :=
  (∀ v ∈ av, zok w v) → vx_Met l y (Cond.code y b n ret :: zw_T) (zRm1 fr lo) (va_Pc (av.map zval) (zPre w h)) (fun _ _ _ _ => False) (zXC w h) 1 6 (zA w)
def zNo : Array Value → State → Outcome → State → Prop := fun _ _ _ _ => False
theorem zCx.of {w : zW} {l : Launch} {y : MethodName} {b : ByteArray} {n : Nat} {ret : Option FieldType} {fr lo : Nat} {av : List zv} {h : zH} {own : String} {loc : List (Option zv)}
    (hy : plainName y.cls = true) (ho : y.cls = own) (hn : av.length ≤ n) (hloc : ∀ (k : Nat) (v : zv), loc[k]? = some (some v) → av[k]? = some v)
    (body : ∀ p e s m args below meth c, zC w p s m args c n b own → meth.locks = false → (∀ x ∈ c.exceptionTable.toList, False) → zV w p l e (zRm1 fr lo) s m args below meth c n 0 0 (vx_MQ below zNo (zXC w h) args s 1 6 (zA w)) 0 loc [] h) : zCx w l y b n ret fr lo av h := by
  intro hok
  refine vx_ofW (cc := b) (maxL := n) (ret := ret) hy rfl ?_
  intro p e s m args below meth c s₁ B hml hex hv
  obtain ⟨rfl, hK, hR⟩ := hv
  have hts := atoms_spec (ws := Cond.code y b n ret :: zw_T) B.pre
  have hown : s.vm.findClass own = some m.cls := by rw [← ho]; exact findClass_of_methodNamed B.named
  have C : zC w p s m (av.map zval).toArray c n b own := ⟨B.exec, B.bytes, hml, hown, fun x hx => hts x (List.mem_cons_of_mem _ hx), hK⟩
  have hlen : (lg_sl (av.map zval)).length ≤ n := by rw [lv_args_len]; exact hn
  have hl := lv_entry (av.map zval) (n := n) hlen
  rw [lg_entry_eq]
  generalize (lg_sl (av.map zval) ++ List.replicate (n - (lg_sl (av.map zval)).length) Slot.unset).toArray = ls at hl ⊢
  rw [zlo_args] at hl
  have hav : ∀ (k : Nat) (v : zv), loc[k]? = some (some v) → (av.map some)[k]? = some (some v) := fun k v hk => by rw [List.getElem?_map, hloc k v hk]; rfl
  refine body p e s m _ below meth c C B.notSynchronized hex s.heap [] ls hR va_S.rf (zlo_sub hl fun q hq => ?_) (fun v hv => by cases hv) (fun v hv => ?_)
  · obtain ⟨k, v, h1, h2⟩ := zlo_mem.mp hq
    exact zlo_mem.mpr ⟨k, v, hav k v h1, h2⟩
  · obtain ⟨k, hk2⟩ := List.getElem?_of_mem hv
    exact hok v (List.mem_of_getElem? (hloc k v hk2))
section ZX
variable {w : zW} {p : Program} {l : Launch} {e : Env} {R : Room} {s : State} {m : MethodId} {args : Array Value} {below : List Frame} {meth : Method} {c : Code} {nL : Nat}
variable {cc : ByteArray} {pc : Nat} {loc : List (Option zv)} {stk : List zv} {h : zH} {own : String}
theorem v_throw (C : zC w p s m args c nL cc RX7) (hl0 : l.stackTraces = false) (hlk : meth.locks = false) (hex : ∀ x ∈ c.exceptionTable.toList, False) {is i : Nat} {tx : String} (hi : (RX7, is, i, tx) ∈ zw_SR)
    (d0 : decode cc pc = .ok (.new 275, 3)) (d3 : decode cc (pc + 3) = .ok (.dup, 1)) (d4 : decode cc (pc + 4) = .ok (.ldc_w is, 3)) (d7 : decode cc (pc + 7) = .ok (.invokespecial 279, 3)) (d10 : decode cc (pc + 10) = .ok (.athrow, 1))
    (hR : 5 < R.frames ∧ stk.length + 82 ≤ R.locals ∧ 1 ≤ R.cells ∧ 6 ≤ R.slots) : zV w p l e R s m args below meth c nL 0 0 (vx_MQ below zNo (zXC w h) args s 1 6 (zA w)) pc loc stk h := by
  intro H locs ls hR1 hS hl hk ho
  obtain ⟨hx, hb, hml, hown, hts, hK⟩ := C
  have hg := List.all_eq_true.mp zx_good
  exact vx_throwSW (own := RX7) (cls := zw_X) (text := tx) (names := nmsX) (ik := 275) (is := is) (ic := 279) (sa := zwS w i) hx hb hl0 hown (by decide +kernel) (by decide +kernel) (hts _ (zmem 845 (by decide +kernel))) (hts _ (zmem 88 (by decide +kernel))) (hK.2.1.2.2.1 _ hi) (zx_at hts hK) hg
    hK.2.2.1.2.2.2.2.2.1 hK.2.2.1.2.2.2.2.2.2 hS (by rw [hml]; exact hl.1) d0 d3 d4 d7 d10 (fun x hx => (hex x hx).elim) hR.1 (by rw [zsum_len]; exact hR.2.1) hR.2.2.1 hR.2.2.2 hlk
    (fun t hA hz hq => ⟨rfl, hR1.grow hq, Nat.le_trans hS.1 hz, fun q h1 h2 => by rw [hq q (Nat.lt_of_lt_of_le h1 hS.1)]; exact hS.2.1 q h1 h2⟩) (fun z hz => hS.2.2 z hz) (Nat.le_refl _) (Nat.le_refl _)
theorem v_xcall (C : zC w p s m args c nL cc own) (hlk : meth.locks = false) (hex : ∀ x ∈ c.exceptionTable.toList, False) {idx ci a n k fr lo : Nat} {y : MethodName} {b : ByteArray} {ret : Option FieldType} {As rest : List zv} (hd : decode cc pc = .ok (.invokevirtual idx, 3)) (hm : zMV own idx ci y b n ret k)
    (hc : zCx w l y b n ret fr lo (.inr (ci, a) :: As) h) (hs : stk = As.reverse ++ .inr (ci, a) :: rest) (hR : fr + 1 ≤ R.frames ∧ 8 + (n + 11) + lo ≤ R.locals ∧ 1 ≤ R.cells ∧ 6 ≤ R.slots) (hk8 : As.length = k ∧ rest.length ≤ 8) : zV w p l e R s m args below meth c nL 0 0 (vx_MQ below zNo (zXC w h) args s 1 6 (zA w)) pc loc stk h := by
  intro H locs ls hR1 hS hl hk ho
  obtain ⟨hx, hb, hml, hown, hts, hK⟩ := C
  obtain ⟨m0, ⟨q, m1, m1'⟩, m2, m3, m4, m5, m6, m7, m8⟩ := hm
  have hka : zwK w a = ci + 1 := hk (.inr (ci, a)) (by rw [hs]; exact List.mem_append_right _ List.mem_cons_self)
  obtain ⟨i, hi⟩ := hR1.get hka (by omega)
  rw [zE_obj hka m0] at hi
  have hM := hc (fun v hv => by
    rcases List.mem_cons.mp hv with rfl | hv
    · exact hka
    · exact hk v (by rw [hs]; exact List.mem_append_left _ (List.mem_reverse.mpr hv)))
  have hcall : CallW R s args own y.cls idx y b n ret (Cond.code y b n ret :: zw_T) (zRm1 fr lo) 1 6 k :=
    ⟨callB_of k hts (zw_good_ws m6) rfl rfl rfl (hts _ m5) (hts _ m2) ⟨m7.1, m7.2, m8⟩ ⟨hR.1, hR.2.1⟩, hts _ m3, hts _ m4⟩
  have hrun := vx_runV (p := p) (l := l) (e := e) (R := R) (below := below) (meth := meth) (H := H) (locs := locs) (cells := 0) (slots := 0) (b := a) (As := As.map zval) (rest := rest.map zval) (g := F0 m pc ls (stk.map zval)) (C := y.cls) ⟨hx, hb, hml, hown, hts⟩ hM hcall
    ⟨zPre_blind, by have := va_recv hK.1 hR1.1 m1 hi; rwa [m1'] at this, fun U hU hW => ⟨rfl, zKn.warm hW hS hU hK, by rw [hU]; exact hR1⟩⟩ rfl (by rw [List.length_map]; exact hk8.1) hl.1 (by
      show stk.map zval = _
      rw [hs, List.map_append, List.map_reverse]
      rfl) (lv_room (by rw [zsum_len]; exact hk8.2)) hd ⟨by simpa using hR.2.2.1, by simpa using hR.2.2.2⟩
  intro T hT X
  rcases hrun T hT X with ⟨v, st₀, t, T', L, h0, X', hL, e1, e2, hq, st⟩ | ⟨q, st₀, t, T', L, E, ce, h0, X', hL, e1, e2, ⟨hE, hR2, hz, hqq⟩, hce, hcv, hcl, st⟩
  · exact hq.elim
  · subst hE
    rw [h0] at hz hqq
    have hR3 : zRel w h T'.heap := by rw [e1]; exact hR2
    have hz3 : s.heap.size ≤ T'.heap.size := Nat.le_trans hS.1 (by rw [e1]; exact hz)
    have hq3 : ∀ q : Nat, q < s.heap.size → ¬ zA w q → T'.heap[q]? = s.heap[q]? := fun q h1 h2 => by rw [e1, hqq q (Nat.lt_of_lt_of_le h1 hS.1) h2]; exact hS.2.1 q h1 h2
    obtain ⟨t2, a1, b1⟩ := vx_out (Qc := zNo) (XC := zXC w h) (free := zA w) (pc := pc) (ls := ls) (rest := rest.map zval) (mc := 1) (ms := 6) (H := T'.heap) (locs := locs ++ L) (cells := 0 + 1) (slots := 0 + 6) (below := below) (p := p) (l := l) (e := e) (R := R) (s := s) (m := m) (args := args) (meth := meth) (c := c)
      (fun x hx => (hex x hx).elim) hlk (by rw [e1]; exact hce) hcv hcl
      (fun t' h' _ => ⟨rfl, by rw [h']; exact hR3, by rw [h']; exact hz3, by rw [h']; exact hq3⟩)
      (fun z hz => by
        rcases List.mem_append.mp hz with h | h
        · exact hS.2.2 z h
        · exact hL z h) (Nat.le_refl _) (Nat.le_refl _) T' rfl X'
    exact ⟨t2, st.trans a1, b1⟩
end ZX
theorem e_inRange (h : zH) (x lo hi : Int) : q_X7_inRange h x lo hi = some (if lo ≤ x ∧ x ≤ hi then 1 else 0) := by
  unfold q_X7_inRange
  by_cases h1 : x < lo
  · rw [if_pos h1, if_neg (by omega)]
  · rw [if_neg h1]
    by_cases h2 : hi < x
    · rw [if_pos h2, if_neg (by omega)]
    · rw [if_neg h2, if_pos (by omega)]

theorem x_X7_checkedStation (w : zW) (l : Launch) (hl0 : l.stackTraces = false) (h : zH) (a : Nat) (x : Int) (hx : ¬ (0 ≤ x ∧ x ≤ zw (h.1 (h.2 a 0) 3 - 1))) : zCx w l yX7_checkedStation cX7_checkedStation 2 (some (.object "SatelliteExchange$Station")) 6 100 [.inr (7, a), .inl x] h := by
  refine zCx.of (own := RX7) (loc := [some (.inr (7, a)), some (.inl x)]) (by decide) rfl (Nat.le_of_ble_eq_true rfl) (fun k v hk => ?_) ?_
  · exact zloc_ok 0 rfl hk
  intro p e s m args below meth c C Z2 Z3
  refine v_iload_n C dX7_checkedStation_0 rfl ?_
  refine v_iconst C dX7_checkedStation_1 rfl ?_
  refine v_aload_n C dX7_checkedStation_2 rfl ?_
  refine v_getR C dX7_checkedStation_3 fl7_10 rfl ?_
  refine v_getI C dX7_checkedStation_6 fl7_71 rfl ?_
  refine v_iconst C dX7_checkedStation_9 rfl ?_
  refine v_isub C dX7_checkedStation_10 ?_
  refine v_callSf (k := 3) (v := .inl 0) C dX7_checkedStation_11 ms7_86 (cq_X7_inRange w l h _ _ _ 0 (by rw [e_inRange, if_neg hx])) rfl ⟨by decide, by decide⟩ ⟨Nat.zero_le _, Nat.zero_le _⟩ ⟨rfl, Nat.le_of_ble_eq_true rfl⟩ ?_
  refine v_if_ne C dX7_checkedStation_14 (tgt := 28) (by decide) (fun c1 => absurd rfl c1) (fun _ => ?_)
  exact v_throw C hl0 Z2 Z3 (is := 277) (i := 13) (tx := "no such station") (by decide +kernel) dX7_checkedStation_17 dX7_checkedStation_20 dX7_checkedStation_21 dX7_checkedStation_24 dX7_checkedStation_27 ⟨by decide, by decide, by decide, by decide⟩

theorem x_X7_checkedCall (w : zW) (l : Launch) (hl0 : l.stackTraces = false) (h : zH) (a : Nat) (x : Int) (hx : ¬ (0 ≤ x ∧ x ≤ zw (h.1 (h.2 a 0) 7 - 1))) : zCx w l yX7_checkedCall cX7_checkedCall 2 (some (.object "SatelliteExchange$Call")) 6 100 [.inr (7, a), .inl x] h := by
  refine zCx.of (own := RX7) (loc := [some (.inr (7, a)), some (.inl x)]) (by decide) rfl (Nat.le_of_ble_eq_true rfl) (fun k v hk => ?_) ?_
  · exact zloc_ok 0 rfl hk
  intro p e s m args below meth c C Z2 Z3
  refine v_iload_n C dX7_checkedCall_0 rfl ?_
  refine v_iconst C dX7_checkedCall_1 rfl ?_
  refine v_aload_n C dX7_checkedCall_2 rfl ?_
  refine v_getR C dX7_checkedCall_3 fl7_10 rfl ?_
  refine v_getI C dX7_checkedCall_6 fl7_74 rfl ?_
  refine v_iconst C dX7_checkedCall_9 rfl ?_
  refine v_isub C dX7_checkedCall_10 ?_
  refine v_callSf (k := 3) (v := .inl 0) C dX7_checkedCall_11 ms7_86 (cq_X7_inRange w l h _ _ _ 0 (by rw [e_inRange, if_neg hx])) rfl ⟨by decide, by decide⟩ ⟨Nat.zero_le _, Nat.zero_le _⟩ ⟨rfl, Nat.le_of_ble_eq_true rfl⟩ ?_
  refine v_if_ne C dX7_checkedCall_14 (tgt := 28) (by decide) (fun c1 => absurd rfl c1) (fun _ => ?_)
  exact v_throw C hl0 Z2 Z3 (is := 282) (i := 14) (tx := "no such call") (by decide +kernel) dX7_checkedCall_17 dX7_checkedCall_20 dX7_checkedCall_21 dX7_checkedCall_24 dX7_checkedCall_27 ⟨by decide, by decide, by decide, by decide⟩

theorem x_X7_checkCarrier (w : zW) (l : Launch) (hl0 : l.stackTraces = false) (h : zH) (a : Nat) (x : Int) (hx : ¬ (0 ≤ x ∧ x ≤ zw (h.1 (h.2 a 0) 1 - 1))) : zCx w l yX7_checkCarrier cX7_checkCarrier 2 none 6 100 [.inr (7, a), .inl x] h := by
  refine zCx.of (own := RX7) (loc := [some (.inr (7, a)), some (.inl x)]) (by decide) rfl (Nat.le_of_ble_eq_true rfl) (fun k v hk => ?_) ?_
  · exact zloc_ok 0 rfl hk
  intro p e s m args below meth c C Z2 Z3
  refine v_iload_n C dX7_checkCarrier_0 rfl ?_
  refine v_iconst C dX7_checkCarrier_1 rfl ?_
  refine v_aload_n C dX7_checkCarrier_2 rfl ?_
  refine v_getR C dX7_checkCarrier_3 fl7_10 rfl ?_
  refine v_getI C dX7_checkCarrier_6 fl7_77 rfl ?_
  refine v_iconst C dX7_checkCarrier_9 rfl ?_
  refine v_isub C dX7_checkCarrier_10 ?_
  refine v_callSf (k := 3) (v := .inl 0) C dX7_checkCarrier_11 ms7_86 (cq_X7_inRange w l h _ _ _ 0 (by rw [e_inRange, if_neg hx])) rfl ⟨by decide, by decide⟩ ⟨Nat.zero_le _, Nat.zero_le _⟩ ⟨rfl, Nat.le_of_ble_eq_true rfl⟩ ?_
  refine v_if_ne C dX7_checkCarrier_14 (tgt := 28) (by decide) (fun c1 => absurd rfl c1) (fun _ => ?_)
  exact v_throw C hl0 Z2 Z3 (is := 284) (i := 15) (tx := "no such carrier") (by decide +kernel) dX7_checkCarrier_17 dX7_checkCarrier_20 dX7_checkCarrier_21 dX7_checkCarrier_24 dX7_checkCarrier_27 ⟨by decide, by decide, by decide, by decide⟩

theorem x_X7_fade (w : zW) (l : Launch) (hl0 : l.stackTraces = false) (h : zH) (a : Nat) (x1 : Int) (x2 : Int) (hx : ¬ (0 ≤ x1 ∧ x1 ≤ zw (h.1 (h.2 a 0) 3 - 1))) : zCx w l yX7_fade cX7_fade 3 (some .int) 7 121 [.inr (7, a), .inl x1, .inl x2] h := by
  refine zCx.of (own := RX7) (loc := [some (.inr (7, a)), some (.inl x1), some (.inl x2)]) (by decide) rfl (Nat.le_of_ble_eq_true rfl) (fun k v hk => ?_) ?_
  · exact zloc_ok 0 rfl hk
  intro p e s m args below meth c C Z2 Z3
  refine v_aload_n C dX7_fade_0 rfl ?_
  refine v_iload_n C dX7_fade_1 rfl ?_
  exact v_xcall (k := 1) C Z2 Z3 dX7_fade_2 mv7_94 (x_X7_checkedStation w l hl0 h a x1 hx) rfl ⟨by decide, by decide, by decide, by decide⟩ ⟨rfl, Nat.le_of_ble_eq_true rfl⟩

theorem x_X7_power (w : zW) (l : Launch) (hl0 : l.stackTraces = false) (h : zH) (a : Nat) (x1 : Int) (hx : ¬ (0 ≤ x1 ∧ x1 ≤ zw (h.1 (h.2 a 0) 3 - 1))) : zCx w l yX7_power cX7_power 2 (some .int) 7 121 [.inr (7, a), .inl x1] h := by
  refine zCx.of (own := RX7) (loc := [some (.inr (7, a)), some (.inl x1)]) (by decide) rfl (Nat.le_of_ble_eq_true rfl) (fun k v hk => ?_) ?_
  · exact zloc_ok 0 rfl hk
  intro p e s m args below meth c C Z2 Z3
  refine v_aload_n C dX7_power_0 rfl ?_
  refine v_iload_n C dX7_power_1 rfl ?_
  exact v_xcall (k := 1) C Z2 Z3 dX7_power_2 mv7_94 (x_X7_checkedStation w l hl0 h a x1 hx) rfl ⟨by decide, by decide, by decide, by decide⟩ ⟨rfl, Nat.le_of_ble_eq_true rfl⟩

theorem x_X7_timingError (w : zW) (l : Launch) (hl0 : l.stackTraces = false) (h : zH) (a : Nat) (x1 : Int) (hx : ¬ (0 ≤ x1 ∧ x1 ≤ zw (h.1 (h.2 a 0) 3 - 1))) : zCx w l yX7_timingError cX7_timingError 2 (some .int) 7 121 [.inr (7, a), .inl x1] h := by
  refine zCx.of (own := RX7) (loc := [some (.inr (7, a)), some (.inl x1)]) (by decide) rfl (Nat.le_of_ble_eq_true rfl) (fun k v hk => ?_) ?_
  · exact zloc_ok 0 rfl hk
  intro p e s m args below meth c C Z2 Z3
  refine v_aload_n C dX7_timingError_0 rfl ?_
  refine v_iload_n C dX7_timingError_1 rfl ?_
  exact v_xcall (k := 1) C Z2 Z3 dX7_timingError_2 mv7_94 (x_X7_checkedStation w l hl0 h a x1 hx) rfl ⟨by decide, by decide, by decide, by decide⟩ ⟨rfl, Nat.le_of_ble_eq_true rfl⟩

theorem x_X7_roundTrip (w : zW) (l : Launch) (hl0 : l.stackTraces = false) (h : zH) (a : Nat) (x1 : Int) (hx : ¬ (0 ≤ x1 ∧ x1 ≤ zw (h.1 (h.2 a 0) 3 - 1))) : zCx w l yX7_roundTrip cX7_roundTrip 2 (some .int) 7 121 [.inr (7, a), .inl x1] h := by
  refine zCx.of (own := RX7) (loc := [some (.inr (7, a)), some (.inl x1)]) (by decide) rfl (Nat.le_of_ble_eq_true rfl) (fun k v hk => ?_) ?_
  · exact zloc_ok 0 rfl hk
  intro p e s m args below meth c C Z2 Z3
  refine v_aload_n C dX7_roundTrip_0 rfl ?_
  refine v_getR C dX7_roundTrip_1 fl7_10 rfl ?_
  refine v_aload_n C dX7_roundTrip_4 rfl ?_
  refine v_iload_n C dX7_roundTrip_5 rfl ?_
  exact v_xcall (k := 1) C Z2 Z3 dX7_roundTrip_6 mv7_94 (x_X7_checkedStation w l hl0 h a x1 hx) rfl ⟨by decide, by decide, by decide, by decide⟩ ⟨rfl, Nat.le_of_ble_eq_true rfl⟩

theorem x_X7_timingFaults (w : zW) (l : Launch) (hl0 : l.stackTraces = false) (h : zH) (a : Nat) (x1 : Int) (hx : ¬ (0 ≤ x1 ∧ x1 ≤ zw (h.1 (h.2 a 0) 3 - 1))) : zCx w l yX7_timingFaults cX7_timingFaults 2 (some .int) 7 121 [.inr (7, a), .inl x1] h := by
  refine zCx.of (own := RX7) (loc := [some (.inr (7, a)), some (.inl x1)]) (by decide) rfl (Nat.le_of_ble_eq_true rfl) (fun k v hk => ?_) ?_
  · exact zloc_ok 0 rfl hk
  intro p e s m args below meth c C Z2 Z3
  refine v_aload_n C dX7_timingFaults_0 rfl ?_
  refine v_iload_n C dX7_timingFaults_1 rfl ?_
  exact v_xcall (k := 1) C Z2 Z3 dX7_timingFaults_2 mv7_94 (x_X7_checkedStation w l hl0 h a x1 hx) rfl ⟨by decide, by decide, by decide, by decide⟩ ⟨rfl, Nat.le_of_ble_eq_true rfl⟩

theorem x_X7_loadOf (w : zW) (l : Launch) (hl0 : l.stackTraces = false) (h : zH) (a : Nat) (x1 : Int) (hx : ¬ (0 ≤ x1 ∧ x1 ≤ zw (h.1 (h.2 a 0) 3 - 1))) : zCx w l yX7_loadOf cX7_loadOf 5 (some .int) 7 121 [.inr (7, a), .inl x1] h := by
  refine zCx.of (own := RX7) (loc := [some (.inr (7, a)), some (.inl x1), none, none, none]) (by decide) rfl (Nat.le_of_ble_eq_true rfl) (fun k v hk => ?_) ?_
  · exact zloc_ok 3 rfl hk
  intro p e s m args below meth c C Z2 Z3
  refine v_aload_n C dX7_loadOf_0 rfl ?_
  refine v_iload_n C dX7_loadOf_1 rfl ?_
  exact v_xcall (k := 1) C Z2 Z3 dX7_loadOf_2 mv7_94 (x_X7_checkedStation w l hl0 h a x1 hx) rfl ⟨by decide, by decide, by decide, by decide⟩ ⟨rfl, Nat.le_of_ble_eq_true rfl⟩

theorem x_X7_errorAfter (w : zW) (l : Launch) (hl0 : l.stackTraces = false) (h : zH) (a : Nat) (x1 : Int) (x2 : Int) (hx : ¬ (0 ≤ x1 ∧ x1 ≤ zw (h.1 (h.2 a 0) 3 - 1))) : zCx w l yX7_errorAfter cX7_errorAfter 6 (some .int) 7 121 [.inr (7, a), .inl x1, .inl x2] h := by
  refine zCx.of (own := RX7) (loc := [some (.inr (7, a)), some (.inl x1), some (.inl x2), none, none, none]) (by decide) rfl (Nat.le_of_ble_eq_true rfl) (fun k v hk => ?_) ?_
  · exact zloc_ok 3 rfl hk
  intro p e s m args below meth c C Z2 Z3
  refine v_aload_n C dX7_errorAfter_0 rfl ?_
  refine v_iload_n C dX7_errorAfter_1 rfl ?_
  exact v_xcall (k := 1) C Z2 Z3 dX7_errorAfter_2 mv7_94 (x_X7_checkedStation w l hl0 h a x1 hx) rfl ⟨by decide, by decide, by decide, by decide⟩ ⟨rfl, Nat.le_of_ble_eq_true rfl⟩

theorem x_X7_powerAfter (w : zW) (l : Launch) (hl0 : l.stackTraces = false) (h : zH) (a : Nat) (x1 : Int) (x2 : Int) (hx : ¬ (0 ≤ x1 ∧ x1 ≤ zw (h.1 (h.2 a 0) 3 - 1))) : zCx w l yX7_powerAfter cX7_powerAfter 6 (some .int) 7 121 [.inr (7, a), .inl x1, .inl x2] h := by
  refine zCx.of (own := RX7) (loc := [some (.inr (7, a)), some (.inl x1), some (.inl x2), none, none, none]) (by decide) rfl (Nat.le_of_ble_eq_true rfl) (fun k v hk => ?_) ?_
  · exact zloc_ok 3 rfl hk
  intro p e s m args below meth c C Z2 Z3
  refine v_aload_n C dX7_powerAfter_0 rfl ?_
  refine v_iload_n C dX7_powerAfter_1 rfl ?_
  exact v_xcall (k := 1) C Z2 Z3 dX7_powerAfter_2 mv7_94 (x_X7_checkedStation w l hl0 h a x1 hx) rfl ⟨by decide, by decide, by decide, by decide⟩ ⟨rfl, Nat.le_of_ble_eq_true rfl⟩

theorem x_X7_framesInTime (w : zW) (l : Launch) (hl0 : l.stackTraces = false) (h : zH) (a : Nat) (x1 : Int) (hx : ¬ (0 ≤ x1 ∧ x1 ≤ zw (h.1 (h.2 a 0) 3 - 1))) : zCx w l yX7_framesInTime cX7_framesInTime 4 (some .int) 7 121 [.inr (7, a), .inl x1] h := by
  refine zCx.of (own := RX7) (loc := [some (.inr (7, a)), some (.inl x1), none, none]) (by decide) rfl (Nat.le_of_ble_eq_true rfl) (fun k v hk => ?_) ?_
  · exact zloc_ok 2 rfl hk
  intro p e s m args below meth c C Z2 Z3
  refine v_aload_n C dX7_framesInTime_0 rfl ?_
  refine v_getR C dX7_framesInTime_1 fl7_22 rfl ?_
  refine v_aload_n C dX7_framesInTime_4 rfl ?_
  refine v_iload_n C dX7_framesInTime_5 rfl ?_
  exact v_xcall (k := 1) C Z2 Z3 dX7_framesInTime_6 mv7_94 (x_X7_checkedStation w l hl0 h a x1 hx) rfl ⟨by decide, by decide, by decide, by decide⟩ ⟨rfl, Nat.le_of_ble_eq_true rfl⟩

theorem x_X7_stateOf (w : zW) (l : Launch) (hl0 : l.stackTraces = false) (h : zH) (a : Nat) (x1 : Int) (hx : ¬ (0 ≤ x1 ∧ x1 ≤ zw (h.1 (h.2 a 0) 7 - 1))) : zCx w l yX7_stateOf cX7_stateOf 2 (some .int) 7 121 [.inr (7, a), .inl x1] h := by
  refine zCx.of (own := RX7) (loc := [some (.inr (7, a)), some (.inl x1)]) (by decide) rfl (Nat.le_of_ble_eq_true rfl) (fun k v hk => ?_) ?_
  · exact zloc_ok 0 rfl hk
  intro p e s m args below meth c C Z2 Z3
  refine v_aload_n C dX7_stateOf_0 rfl ?_
  refine v_iload_n C dX7_stateOf_1 rfl ?_
  exact v_xcall (k := 1) C Z2 Z3 dX7_stateOf_2 mv7_149 (x_X7_checkedCall w l hl0 h a x1 hx) rfl ⟨by decide, by decide, by decide, by decide⟩ ⟨rfl, Nat.le_of_ble_eq_true rfl⟩

theorem x_X7_senderOf (w : zW) (l : Launch) (hl0 : l.stackTraces = false) (h : zH) (a : Nat) (x1 : Int) (hx : ¬ (0 ≤ x1 ∧ x1 ≤ zw (h.1 (h.2 a 0) 7 - 1))) : zCx w l yX7_senderOf cX7_senderOf 2 (some .int) 7 121 [.inr (7, a), .inl x1] h := by
  refine zCx.of (own := RX7) (loc := [some (.inr (7, a)), some (.inl x1)]) (by decide) rfl (Nat.le_of_ble_eq_true rfl) (fun k v hk => ?_) ?_
  · exact zloc_ok 0 rfl hk
  intro p e s m args below meth c C Z2 Z3
  refine v_aload_n C dX7_senderOf_0 rfl ?_
  refine v_iload_n C dX7_senderOf_1 rfl ?_
  exact v_xcall (k := 1) C Z2 Z3 dX7_senderOf_2 mv7_149 (x_X7_checkedCall w l hl0 h a x1 hx) rfl ⟨by decide, by decide, by decide, by decide⟩ ⟨rfl, Nat.le_of_ble_eq_true rfl⟩

theorem x_X7_receiverOf (w : zW) (l : Launch) (hl0 : l.stackTraces = false) (h : zH) (a : Nat) (x1 : Int) (hx : ¬ (0 ≤ x1 ∧ x1 ≤ zw (h.1 (h.2 a 0) 7 - 1))) : zCx w l yX7_receiverOf cX7_receiverOf 2 (some .int) 7 121 [.inr (7, a), .inl x1] h := by
  refine zCx.of (own := RX7) (loc := [some (.inr (7, a)), some (.inl x1)]) (by decide) rfl (Nat.le_of_ble_eq_true rfl) (fun k v hk => ?_) ?_
  · exact zloc_ok 0 rfl hk
  intro p e s m args below meth c C Z2 Z3
  refine v_aload_n C dX7_receiverOf_0 rfl ?_
  refine v_iload_n C dX7_receiverOf_1 rfl ?_
  exact v_xcall (k := 1) C Z2 Z3 dX7_receiverOf_2 mv7_149 (x_X7_checkedCall w l hl0 h a x1 hx) rfl ⟨by decide, by decide, by decide, by decide⟩ ⟨rfl, Nat.le_of_ble_eq_true rfl⟩

theorem x_X7_priorityOf (w : zW) (l : Launch) (hl0 : l.stackTraces = false) (h : zH) (a : Nat) (x1 : Int) (hx : ¬ (0 ≤ x1 ∧ x1 ≤ zw (h.1 (h.2 a 0) 7 - 1))) : zCx w l yX7_priorityOf cX7_priorityOf 2 (some .int) 7 121 [.inr (7, a), .inl x1] h := by
  refine zCx.of (own := RX7) (loc := [some (.inr (7, a)), some (.inl x1)]) (by decide) rfl (Nat.le_of_ble_eq_true rfl) (fun k v hk => ?_) ?_
  · exact zloc_ok 0 rfl hk
  intro p e s m args below meth c C Z2 Z3
  refine v_aload_n C dX7_priorityOf_0 rfl ?_
  refine v_iload_n C dX7_priorityOf_1 rfl ?_
  exact v_xcall (k := 1) C Z2 Z3 dX7_priorityOf_2 mv7_149 (x_X7_checkedCall w l hl0 h a x1 hx) rfl ⟨by decide, by decide, by decide, by decide⟩ ⟨rfl, Nat.le_of_ble_eq_true rfl⟩

theorem x_X7_carrierOf (w : zW) (l : Launch) (hl0 : l.stackTraces = false) (h : zH) (a : Nat) (x1 : Int) (hx : ¬ (0 ≤ x1 ∧ x1 ≤ zw (h.1 (h.2 a 0) 7 - 1))) : zCx w l yX7_carrierOf cX7_carrierOf 3 (some .int) 7 121 [.inr (7, a), .inl x1] h := by
  refine zCx.of (own := RX7) (loc := [some (.inr (7, a)), some (.inl x1), none]) (by decide) rfl (Nat.le_of_ble_eq_true rfl) (fun k v hk => ?_) ?_
  · exact zloc_ok 1 rfl hk
  intro p e s m args below meth c C Z2 Z3
  refine v_aload_n C dX7_carrierOf_0 rfl ?_
  refine v_iload_n C dX7_carrierOf_1 rfl ?_
  exact v_xcall (k := 1) C Z2 Z3 dX7_carrierOf_2 mv7_149 (x_X7_checkedCall w l hl0 h a x1 hx) rfl ⟨by decide, by decide, by decide, by decide⟩ ⟨rfl, Nat.le_of_ble_eq_true rfl⟩

theorem x_X7_startOf (w : zW) (l : Launch) (hl0 : l.stackTraces = false) (h : zH) (a : Nat) (x1 : Int) (hx : ¬ (0 ≤ x1 ∧ x1 ≤ zw (h.1 (h.2 a 0) 7 - 1))) : zCx w l yX7_startOf cX7_startOf 3 (some .int) 7 121 [.inr (7, a), .inl x1] h := by
  refine zCx.of (own := RX7) (loc := [some (.inr (7, a)), some (.inl x1), none]) (by decide) rfl (Nat.le_of_ble_eq_true rfl) (fun k v hk => ?_) ?_
  · exact zloc_ok 1 rfl hk
  intro p e s m args below meth c C Z2 Z3
  refine v_aload_n C dX7_startOf_0 rfl ?_
  refine v_iload_n C dX7_startOf_1 rfl ?_
  exact v_xcall (k := 1) C Z2 Z3 dX7_startOf_2 mv7_149 (x_X7_checkedCall w l hl0 h a x1 hx) rfl ⟨by decide, by decide, by decide, by decide⟩ ⟨rfl, Nat.le_of_ble_eq_true rfl⟩

theorem x_X7_burstOf (w : zW) (l : Launch) (hl0 : l.stackTraces = false) (h : zH) (a : Nat) (x1 : Int) (hx : ¬ (0 ≤ x1 ∧ x1 ≤ zw (h.1 (h.2 a 0) 7 - 1))) : zCx w l yX7_burstOf cX7_burstOf 2 (some .int) 7 121 [.inr (7, a), .inl x1] h := by
  refine zCx.of (own := RX7) (loc := [some (.inr (7, a)), some (.inl x1)]) (by decide) rfl (Nat.le_of_ble_eq_true rfl) (fun k v hk => ?_) ?_
  · exact zloc_ok 0 rfl hk
  intro p e s m args below meth c C Z2 Z3
  refine v_aload_n C dX7_burstOf_0 rfl ?_
  refine v_iload_n C dX7_burstOf_1 rfl ?_
  exact v_xcall (k := 1) C Z2 Z3 dX7_burstOf_2 mv7_149 (x_X7_checkedCall w l hl0 h a x1 hx) rfl ⟨by decide, by decide, by decide, by decide⟩ ⟨rfl, Nat.le_of_ble_eq_true rfl⟩

theorem x_X7_sendOffset (w : zW) (l : Launch) (hl0 : l.stackTraces = false) (h : zH) (a : Nat) (x1 : Int) (hx : ¬ (0 ≤ x1 ∧ x1 ≤ zw (h.1 (h.2 a 0) 7 - 1))) : zCx w l yX7_sendOffset cX7_sendOffset 4 (some .int) 7 121 [.inr (7, a), .inl x1] h := by
  refine zCx.of (own := RX7) (loc := [some (.inr (7, a)), some (.inl x1), none, none]) (by decide) rfl (Nat.le_of_ble_eq_true rfl) (fun k v hk => ?_) ?_
  · exact zloc_ok 2 rfl hk
  intro p e s m args below meth c C Z2 Z3
  refine v_aload_n C dX7_sendOffset_0 rfl ?_
  refine v_iload_n C dX7_sendOffset_1 rfl ?_
  exact v_xcall (k := 1) C Z2 Z3 dX7_sendOffset_2 mv7_149 (x_X7_checkedCall w l hl0 h a x1 hx) rfl ⟨by decide, by decide, by decide, by decide⟩ ⟨rfl, Nat.le_of_ble_eq_true rfl⟩

theorem x_X7_endOf (w : zW) (l : Launch) (hl0 : l.stackTraces = false) (h : zH) (a : Nat) (x1 : Int) (hx : ¬ (0 ≤ x1 ∧ x1 ≤ zw (h.1 (h.2 a 0) 7 - 1))) : zCx w l yX7_endOf cX7_endOf 3 (some .int) 7 121 [.inr (7, a), .inl x1] h := by
  refine zCx.of (own := RX7) (loc := [some (.inr (7, a)), some (.inl x1), none]) (by decide) rfl (Nat.le_of_ble_eq_true rfl) (fun k v hk => ?_) ?_
  · exact zloc_ok 1 rfl hk
  intro p e s m args below meth c C Z2 Z3
  refine v_aload_n C dX7_endOf_0 rfl ?_
  refine v_iload_n C dX7_endOf_1 rfl ?_
  exact v_xcall (k := 1) C Z2 Z3 dX7_endOf_2 mv7_149 (x_X7_checkedCall w l hl0 h a x1 hx) rfl ⟨by decide, by decide, by decide, by decide⟩ ⟨rfl, Nat.le_of_ble_eq_true rfl⟩

theorem x_X7_waitOf (w : zW) (l : Launch) (hl0 : l.stackTraces = false) (h : zH) (a : Nat) (x1 : Int) (hx : ¬ (0 ≤ x1 ∧ x1 ≤ zw (h.1 (h.2 a 0) 7 - 1))) : zCx w l yX7_waitOf cX7_waitOf 3 (some .int) 7 121 [.inr (7, a), .inl x1] h := by
  refine zCx.of (own := RX7) (loc := [some (.inr (7, a)), some (.inl x1), none]) (by decide) rfl (Nat.le_of_ble_eq_true rfl) (fun k v hk => ?_) ?_
  · exact zloc_ok 1 rfl hk
  intro p e s m args below meth c C Z2 Z3
  refine v_aload_n C dX7_waitOf_0 rfl ?_
  refine v_iload_n C dX7_waitOf_1 rfl ?_
  exact v_xcall (k := 1) C Z2 Z3 dX7_waitOf_2 mv7_149 (x_X7_checkedCall w l hl0 h a x1 hx) rfl ⟨by decide, by decide, by decide, by decide⟩ ⟨rfl, Nat.le_of_ble_eq_true rfl⟩

theorem x_X7_marginOf (w : zW) (l : Launch) (hl0 : l.stackTraces = false) (h : zH) (a : Nat) (x1 : Int) (hx : ¬ (0 ≤ x1 ∧ x1 ≤ zw (h.1 (h.2 a 0) 7 - 1))) : zCx w l yX7_marginOf cX7_marginOf 2 (some .int) 7 121 [.inr (7, a), .inl x1] h := by
  refine zCx.of (own := RX7) (loc := [some (.inr (7, a)), some (.inl x1)]) (by decide) rfl (Nat.le_of_ble_eq_true rfl) (fun k v hk => ?_) ?_
  · exact zloc_ok 0 rfl hk
  intro p e s m args below meth c C Z2 Z3
  refine v_aload_n C dX7_marginOf_0 rfl ?_
  refine v_getR C dX7_marginOf_1 fl7_10 rfl ?_
  refine v_aload_n C dX7_marginOf_4 rfl ?_
  refine v_iload_n C dX7_marginOf_5 rfl ?_
  exact v_xcall (k := 1) C Z2 Z3 dX7_marginOf_6 mv7_149 (x_X7_checkedCall w l hl0 h a x1 hx) rfl ⟨by decide, by decide, by decide, by decide⟩ ⟨rfl, Nat.le_of_ble_eq_true rfl⟩

theorem x_X7_degradedFrames (w : zW) (l : Launch) (hl0 : l.stackTraces = false) (h : zH) (a : Nat) (x1 : Int) (hx : ¬ (0 ≤ x1 ∧ x1 ≤ zw (h.1 (h.2 a 0) 7 - 1))) : zCx w l yX7_degradedFrames cX7_degradedFrames 2 (some .int) 7 121 [.inr (7, a), .inl x1] h := by
  refine zCx.of (own := RX7) (loc := [some (.inr (7, a)), some (.inl x1)]) (by decide) rfl (Nat.le_of_ble_eq_true rfl) (fun k v hk => ?_) ?_
  · exact zloc_ok 0 rfl hk
  intro p e s m args below meth c C Z2 Z3
  refine v_aload_n C dX7_degradedFrames_0 rfl ?_
  refine v_iload_n C dX7_degradedFrames_1 rfl ?_
  exact v_xcall (k := 1) C Z2 Z3 dX7_degradedFrames_2 mv7_149 (x_X7_checkedCall w l hl0 h a x1 hx) rfl ⟨by decide, by decide, by decide, by decide⟩ ⟨rfl, Nat.le_of_ble_eq_true rfl⟩

theorem x_X7_conflicts (w : zW) (l : Launch) (hl0 : l.stackTraces = false) (h : zH) (a : Nat) (x1 : Int) (hx : ¬ (0 ≤ x1 ∧ x1 ≤ zw (h.1 (h.2 a 0) 7 - 1))) : zCx w l yX7_conflicts cX7_conflicts 6 (some .int) 7 121 [.inr (7, a), .inl x1] h := by
  refine zCx.of (own := RX7) (loc := [some (.inr (7, a)), some (.inl x1), none, none, none, none]) (by decide) rfl (Nat.le_of_ble_eq_true rfl) (fun k v hk => ?_) ?_
  · exact zloc_ok 4 rfl hk
  intro p e s m args below meth c C Z2 Z3
  refine v_aload_n C dX7_conflicts_0 rfl ?_
  refine v_iload_n C dX7_conflicts_1 rfl ?_
  exact v_xcall (k := 1) C Z2 Z3 dX7_conflicts_2 mv7_149 (x_X7_checkedCall w l hl0 h a x1 hx) rfl ⟨by decide, by decide, by decide, by decide⟩ ⟨rfl, Nat.le_of_ble_eq_true rfl⟩

theorem x_X7_clearFrame (w : zW) (l : Launch) (hl0 : l.stackTraces = false) (h : zH) (a : Nat) (x1 : Int) (hx : ¬ (0 ≤ x1 ∧ x1 ≤ zw (h.1 (h.2 a 0) 7 - 1))) : zCx w l yX7_clearFrame cX7_clearFrame 6 (some .int) 7 121 [.inr (7, a), .inl x1] h := by
  refine zCx.of (own := RX7) (loc := [some (.inr (7, a)), some (.inl x1), none, none, none, none]) (by decide) rfl (Nat.le_of_ble_eq_true rfl) (fun k v hk => ?_) ?_
  · exact zloc_ok 4 rfl hk
  intro p e s m args below meth c C Z2 Z3
  refine v_aload_n C dX7_clearFrame_0 rfl ?_
  refine v_iload_n C dX7_clearFrame_1 rfl ?_
  exact v_xcall (k := 1) C Z2 Z3 dX7_clearFrame_2 mv7_149 (x_X7_checkedCall w l hl0 h a x1 hx) rfl ⟨by decide, by decide, by decide, by decide⟩ ⟨rfl, Nat.le_of_ble_eq_true rfl⟩

theorem x_X7_fitsWithout (w : zW) (l : Launch) (hl0 : l.stackTraces = false) (h : zH) (a : Nat) (x1 : Int) (x2 : Int) (hx : ¬ (0 ≤ x1 ∧ x1 ≤ zw (h.1 (h.2 a 0) 7 - 1))) : zCx w l yX7_fitsWithout cX7_fitsWithout 5 (some .boolean) 7 121 [.inr (7, a), .inl x1, .inl x2] h := by
  refine zCx.of (own := RX7) (loc := [some (.inr (7, a)), some (.inl x1), some (.inl x2), none, none]) (by decide) rfl (Nat.le_of_ble_eq_true rfl) (fun k v hk => ?_) ?_
  · exact zloc_ok 2 rfl hk
  intro p e s m args below meth c C Z2 Z3
  refine v_aload_n C dX7_fitsWithout_0 rfl ?_
  refine v_iload_n C dX7_fitsWithout_1 rfl ?_
  exact v_xcall (k := 1) C Z2 Z3 dX7_fitsWithout_2 mv7_149 (x_X7_checkedCall w l hl0 h a x1 hx) rfl ⟨by decide, by decide, by decide, by decide⟩ ⟨rfl, Nat.le_of_ble_eq_true rfl⟩

theorem x_X7_callsToDrop (w : zW) (l : Launch) (hl0 : l.stackTraces = false) (h : zH) (a : Nat) (x1 : Int) (hx : ¬ (0 ≤ x1 ∧ x1 ≤ zw (h.1 (h.2 a 0) 7 - 1))) : zCx w l yX7_callsToDrop cX7_callsToDrop 3 (some .int) 7 121 [.inr (7, a), .inl x1] h := by
  refine zCx.of (own := RX7) (loc := [some (.inr (7, a)), some (.inl x1), none]) (by decide) rfl (Nat.le_of_ble_eq_true rfl) (fun k v hk => ?_) ?_
  · exact zloc_ok 1 rfl hk
  intro p e s m args below meth c C Z2 Z3
  refine v_aload_n C dX7_callsToDrop_0 rfl ?_
  refine v_iload_n C dX7_callsToDrop_1 rfl ?_
  exact v_xcall (k := 1) C Z2 Z3 dX7_callsToDrop_2 mv7_149 (x_X7_checkedCall w l hl0 h a x1 hx) rfl ⟨by decide, by decide, by decide, by decide⟩ ⟨rfl, Nat.le_of_ble_eq_true rfl⟩

theorem x_X7_earliestStart (w : zW) (l : Launch) (hl0 : l.stackTraces = false) (h : zH) (a : Nat) (x1 : Int) (x2 : Int) (hx : ¬ (0 ≤ x1 ∧ x1 ≤ zw (h.1 (h.2 a 0) 7 - 1))) : zCx w l yX7_earliestStart cX7_earliestStart 4 (some .int) 7 121 [.inr (7, a), .inl x1, .inl x2] h := by
  refine zCx.of (own := RX7) (loc := [some (.inr (7, a)), some (.inl x1), some (.inl x2), none]) (by decide) rfl (Nat.le_of_ble_eq_true rfl) (fun k v hk => ?_) ?_
  · exact zloc_ok 1 rfl hk
  intro p e s m args below meth c C Z2 Z3
  refine v_aload_n C dX7_earliestStart_0 rfl ?_
  refine v_iload_n C dX7_earliestStart_1 rfl ?_
  exact v_xcall (k := 1) C Z2 Z3 dX7_earliestStart_2 mv7_149 (x_X7_checkedCall w l hl0 h a x1 hx) rfl ⟨by decide, by decide, by decide, by decide⟩ ⟨rfl, Nat.le_of_ble_eq_true rfl⟩

theorem x_X7_earliestStart_2 (w : zW) (l : Launch) (hl0 : l.stackTraces = false) (h : zH) (a : Nat) (x1 : Int) (x2 : Int) (r0 : Nat) (h0 : q_X7_checkedCall h a x1 = some r0) (hx : ¬ (0 ≤ x2 ∧ x2 ≤ zw (h.1 (h.2 a 0) 1 - 1))) : zCx w l yX7_earliestStart cX7_earliestStart 4 (some .int) 7 121 [.inr (7, a), .inl x1, .inl x2] h := by
  refine zCx.of (own := RX7) (loc := [some (.inr (7, a)), some (.inl x1), some (.inl x2), none]) (by decide) rfl (Nat.le_of_ble_eq_true rfl) (fun k v hk => ?_) ?_
  · exact zloc_ok 1 rfl hk
  intro p e s m args below meth c C Z2 Z3
  refine v_aload_n C dX7_earliestStart_0 rfl ?_
  refine v_iload_n C dX7_earliestStart_1 rfl ?_
  refine v_callVf (k := 1) (v := .inr (0, r0)) C dX7_earliestStart_2 mv7_149 (cq_X7_checkedCall w l h _ _ r0 h0) rfl ⟨by decide, by decide⟩ ⟨Nat.zero_le _, Nat.zero_le _⟩ ⟨rfl, Nat.le_of_ble_eq_true rfl⟩ ?_
  refine v_astore_n C dX7_earliestStart_5 (by decide) ?_
  refine v_aload_n C dX7_earliestStart_6 rfl ?_
  refine v_iload_n C dX7_earliestStart_7 rfl ?_
  exact v_xcall (k := 1) C Z2 Z3 dX7_earliestStart_8 mv7_225 (x_X7_checkCarrier w l hl0 h a x2 hx) rfl ⟨by decide, by decide, by decide, by decide⟩ ⟨rfl, Nat.le_of_ble_eq_true rfl⟩

theorem x_X7_framesToWait (w : zW) (l : Launch) (hl0 : l.stackTraces = false) (h : zH) (a : Nat) (x1 : Int) (hx : ¬ (0 ≤ x1 ∧ x1 ≤ zw (h.1 (h.2 a 0) 7 - 1))) : zCx w l yX7_framesToWait cX7_framesToWait 3 (some .int) 7 121 [.inr (7, a), .inl x1] h := by
  refine zCx.of (own := RX7) (loc := [some (.inr (7, a)), some (.inl x1), none]) (by decide) rfl (Nat.le_of_ble_eq_true rfl) (fun k v hk => ?_) ?_
  · exact zloc_ok 1 rfl hk
  intro p e s m args below meth c C Z2 Z3
  refine v_aload_n C dX7_framesToWait_0 rfl ?_
  refine v_iload_n C dX7_framesToWait_1 rfl ?_
  exact v_xcall (k := 1) C Z2 Z3 dX7_framesToWait_2 mv7_149 (x_X7_checkedCall w l hl0 h a x1 hx) rfl ⟨by decide, by decide, by decide, by decide⟩ ⟨rfl, Nat.le_of_ble_eq_true rfl⟩

theorem x_X7_callsOn (w : zW) (l : Launch) (hl0 : l.stackTraces = false) (h : zH) (a : Nat) (x1 : Int) (hx : ¬ (0 ≤ x1 ∧ x1 ≤ zw (h.1 (h.2 a 0) 1 - 1))) : zCx w l yX7_callsOn cX7_callsOn 4 (some .int) 7 121 [.inr (7, a), .inl x1] h := by
  refine zCx.of (own := RX7) (loc := [some (.inr (7, a)), some (.inl x1), none, none]) (by decide) rfl (Nat.le_of_ble_eq_true rfl) (fun k v hk => ?_) ?_
  · exact zloc_ok 2 rfl hk
  intro p e s m args below meth c C Z2 Z3
  refine v_aload_n C dX7_callsOn_0 rfl ?_
  refine v_iload_n C dX7_callsOn_1 rfl ?_
  exact v_xcall (k := 1) C Z2 Z3 dX7_callsOn_2 mv7_225 (x_X7_checkCarrier w l hl0 h a x1 hx) rfl ⟨by decide, by decide, by decide, by decide⟩ ⟨rfl, Nat.le_of_ble_eq_true rfl⟩

theorem x_X7_usedSymbols (w : zW) (l : Launch) (hl0 : l.stackTraces = false) (h : zH) (a : Nat) (x1 : Int) (hx : ¬ (0 ≤ x1 ∧ x1 ≤ zw (h.1 (h.2 a 0) 1 - 1))) : zCx w l yX7_usedSymbols cX7_usedSymbols 4 (some .int) 7 121 [.inr (7, a), .inl x1] h := by
  refine zCx.of (own := RX7) (loc := [some (.inr (7, a)), some (.inl x1), none, none]) (by decide) rfl (Nat.le_of_ble_eq_true rfl) (fun k v hk => ?_) ?_
  · exact zloc_ok 2 rfl hk
  intro p e s m args below meth c C Z2 Z3
  refine v_aload_n C dX7_usedSymbols_0 rfl ?_
  refine v_iload_n C dX7_usedSymbols_1 rfl ?_
  exact v_xcall (k := 1) C Z2 Z3 dX7_usedSymbols_2 mv7_225 (x_X7_checkCarrier w l hl0 h a x1 hx) rfl ⟨by decide, by decide, by decide, by decide⟩ ⟨rfl, Nat.le_of_ble_eq_true rfl⟩

theorem x_X7_callAt (w : zW) (l : Launch) (hl0 : l.stackTraces = false) (h : zH) (a : Nat) (x1 : Int) (x2 : Int) (hx : ¬ (0 ≤ x1 ∧ x1 ≤ zw (h.1 (h.2 a 0) 1 - 1))) : zCx w l yX7_callAt cX7_callAt 4 (some .int) 7 121 [.inr (7, a), .inl x1, .inl x2] h := by
  refine zCx.of (own := RX7) (loc := [some (.inr (7, a)), some (.inl x1), some (.inl x2), none]) (by decide) rfl (Nat.le_of_ble_eq_true rfl) (fun k v hk => ?_) ?_
  · exact zloc_ok 1 rfl hk
  intro p e s m args below meth c C Z2 Z3
  refine v_aload_n C dX7_callAt_0 rfl ?_
  refine v_iload_n C dX7_callAt_1 rfl ?_
  exact v_xcall (k := 1) C Z2 Z3 dX7_callAt_2 mv7_225 (x_X7_checkCarrier w l hl0 h a x1 hx) rfl ⟨by decide, by decide, by decide, by decide⟩ ⟨rfl, Nat.le_of_ble_eq_true rfl⟩

theorem x_X7_callOver (w : zW) (l : Launch) (hl0 : l.stackTraces = false) (h : zH) (a : Nat) (x1 : Int) (x2 : Int) (hx : ¬ (0 ≤ x1 ∧ x1 ≤ zw (h.1 (h.2 a 0) 1 - 1))) : zCx w l yX7_callOver cX7_callOver 5 (some .int) 7 121 [.inr (7, a), .inl x1, .inl x2] h := by
  refine zCx.of (own := RX7) (loc := [some (.inr (7, a)), some (.inl x1), some (.inl x2), none, none]) (by decide) rfl (Nat.le_of_ble_eq_true rfl) (fun k v hk => ?_) ?_
  · exact zloc_ok 2 rfl hk
  intro p e s m args below meth c C Z2 Z3
  refine v_aload_n C dX7_callOver_0 rfl ?_
  refine v_iload_n C dX7_callOver_1 rfl ?_
  exact v_xcall (k := 1) C Z2 Z3 dX7_callOver_2 mv7_225 (x_X7_checkCarrier w l hl0 h a x1 hx) rfl ⟨by decide, by decide, by decide, by decide⟩ ⟨rfl, Nat.le_of_ble_eq_true rfl⟩

theorem x_X7_longestFit (w : zW) (l : Launch) (hl0 : l.stackTraces = false) (h : zH) (a : Nat) (x1 : Int) (hx : ¬ (0 ≤ x1 ∧ x1 ≤ zw (h.1 (h.2 a 0) 1 - 1))) : zCx w l yX7_longestFit cX7_longestFit 2 (some .int) 7 121 [.inr (7, a), .inl x1] h := by
  refine zCx.of (own := RX7) (loc := [some (.inr (7, a)), some (.inl x1)]) (by decide) rfl (Nat.le_of_ble_eq_true rfl) (fun k v hk => ?_) ?_
  · exact zloc_ok 0 rfl hk
  intro p e s m args below meth c C Z2 Z3
  refine v_aload_n C dX7_longestFit_0 rfl ?_
  refine v_iload_n C dX7_longestFit_1 rfl ?_
  exact v_xcall (k := 1) C Z2 Z3 dX7_longestFit_2 mv7_225 (x_X7_checkCarrier w l hl0 h a x1 hx) rfl ⟨by decide, by decide, by decide, by decide⟩ ⟨rfl, Nat.le_of_ble_eq_true rfl⟩
