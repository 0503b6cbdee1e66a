/-! The JDK's StringBuilder: toString. -/
def yMX (own : String) (idx : Nat) (x y : MethodName) (b : ByteArray) (n : Nat) (ret : Option FieldType) (k : Nat) : Prop :=
  Cond.methodLink own idx x ∈ zw_T ∧ Cond.sameMethod x.cls x.cls x.name x.desc ∈ zw_T ∧ Cond.selects RJ4 x y ∈ zw_T ∧ Cond.instanceMethod x ∈ zw_T ∧ (∃ b0 n0 r0, Cond.code ⟨x.cls, x.name, x.desc⟩ b0 n0 r0 ∈ zw_T) ∧ Cond.instanceMethod y ∈ zw_T ∧ Cond.initialized y.cls ∈ zw_T ∧ Cond.code y b n ret ∈ zw_T ∧ (x.cls ≠ "java/lang/invoke/MethodHandle" ∧ x.cls ≠ "java/lang/invoke/VarHandle") ∧ (parseMethodDescriptor x.desc).map (fun d => d.parameters.length) = some k
section YX
variable {w wc : zW} {p : Program} {l : Launch} {e : Env} {R : Room} {s : State} {m : MethodId} {args : Array Value} {below : List Frame} {meth : Method} {c : Code} {nL cells slots : Nat} {Q : State → Prop}
variable {cc : ByteArray} {own : String} {pc : Nat} {loc : List (Option zv)} {stk : List zv} {G Gc : Heap → Prop} {ws : va_W}
theorem y_callX (C : zC w p s m args c nL cc own) {idx b n k fr lo mc ms : Nat} {x y : MethodName} {bt : ByteArray} {ret : Option FieldType} {As rest : List zv} {post : Option zv → (Heap → Prop) → Prop} (hd : decode cc pc = .ok (.invokevirtual idx, 3)) (hm : yMX own idx x y bt n ret k)
    (hA : ∀ q, zA wc q → zA w q) (hc : yCt wc l y bt n ret fr lo mc ms (.inr (8, b) :: As) Gc post)
    (hpre : ∀ (H : Heap) (locs : List Loc), G H → va_S (zA w) s.heap H locs → (∃ cellB : Cell, H[b]? = some cellB ∧ cellB.vm.isStatics = false ∧ s.vm.findClass RJ4 = some cellB.cls) ∧ ∀ U : State, U.heap = H → s.WarmedH U.vm → yPre wc Gc U)
    (hs : stk = As.reverse ++ .inr (8, b) :: rest) (hR : fr + 1 ≤ R.frames ∧ 8 + (n + 11) + lo ≤ R.locals) (hcs : cells + mc ≤ R.cells ∧ slots + ms ≤ R.slots) (hk8 : As.length = k ∧ rest.length ≤ 8)
    (kk : ∀ (r : Option zv) (G1 : Heap → Prop), post r G1 → yS w p l e R s m args below meth c nL (cells + mc) (slots + ms) Q (pc + 3) loc (zpush r rest) (fun H1 => G1 H1 ∧ yBe wc G H1)) : yS w p l e R s m args below meth c nL cells slots Q pc loc stk G := by
  obtain ⟨hx, hb, hml, hown, hts, hK⟩ := C
  obtain ⟨m2, m3, m4, mx, ⟨b0, n0, r0, mc0⟩, m5, m5i, m6, m7, m8⟩ := hm
  refine y_ofRun (a := (Value.ref b :: As.map zval).toArray) (rest := rest) (post := post) hA ?_ (fun v hv => by rw [hs]; exact List.mem_append_right _ (List.mem_cons_of_mem _ hv)) kk
  intro H locs ls hR1 hS hl hk
  have hM := hc (fun v hv => by
    rcases List.mem_cons.mp hv with rfl | hv
    · trivial
    · exact hk v (by rw [hs]; exact List.mem_append_left _ (List.mem_reverse.mpr hv)))
  have hG : GoodIn zw_T (Cond.code y bt n ret :: zw_T) := zw_good_ws m6
  have hcu : va_CU R s args own RJ4 x.cls idx x y bt n ret (Cond.code y bt n ret :: zw_T) (zRmi fr lo mc ms) mc ms k :=
    ⟨⟨rfl, rfl, hR.1, hR.2, pay_in hts hG, List.mem_cons_self⟩, hts _ m6, hts _ m5i, m7, fun sig h => by
      rw [h] at m8
      exact (Option.some.inj m8).symm, hts _ m2, hts _ m3, va_Decl.of (hts _ mx) (hts _ mc0), hts _ m4, hts _ m5⟩
  obtain ⟨hrc, hpr⟩ := hpre H locs hR1 hS
  exact va_runU (p := p) (l := l) (e := e) (R := R) (below := below) (meth := meth) (H := H) (locs := locs) (cells := cells) (slots := slots) (b := b) (As := As.map zval) (rest := rest.map zval) (g := F0 m pc ls (stk.map zval)) (C := RJ4) (owner := x.cls) (x := x) ⟨hx, hb, hml, hown, hts⟩ hM hcu
    ⟨yPre_blind, hrc, fun U hU hW => ⟨rfl, hpr U hU hW⟩⟩ rfl (by rw [List.length_map]; exact hk8.1) hl.1 (by
      show stk.map zval = _
      rw [hs, List.map_append, List.map_reverse]
      rfl) (lv_room (by rw [zsum_len]; exact hk8.2)) hd hcs
/-- a constructor with a null behind its argument -/
theorem y_callIN (C : zC w p s m args c nL cc own) {idx q9 b9 n fr lo mc ms : Nat} {y : MethodName} {bt : ByteArray} {rest : List zv} {post : Option zv → (Heap → Prop) → Prop} (hd1 : decode cc pc = .ok (.aconst_null, 1)) (hd : decode cc (pc + 1) = .ok (.invokespecial idx, 3)) (hm : yMI own idx y bt n 2)
    (hM : Met l y (Cond.code y bt n none :: zw_T) (zRmi fr lo mc ms) (va_Pc [.ref q9, .ref b9, .null] (yPre w G)) (yQ w post) mc ms (zA w))
    (hpre : ∀ (H : Heap) (locs : List Loc), G H → va_S (zA w) s.heap H locs → ∀ U : State, U.heap = H → s.WarmedH U.vm → yPre w G U)
    (hs : stk = .inr (8, b9) :: .inr (9, q9) :: rest) (hR : fr + 1 ≤ R.frames ∧ 8 + (n + 11) + lo ≤ R.locals) (hcs : cells + mc ≤ R.cells ∧ slots + ms ≤ R.slots) (hk8 : rest.length ≤ 8)
    (kk : ∀ (r : Option zv) (G1 : Heap → Prop), post r G1 → yS w p l e R s m args below meth c nL (cells + mc) (slots + ms) Q (pc + 4) loc (zpush r rest) G1) : yS w p l e R s m args below meth c nL cells slots Q pc loc stk G := by
  subst hs
  obtain ⟨hx, hb, hml, hown, hts, hK⟩ := C
  obtain ⟨m1, m2, m5, m5i, m6, m7, m8⟩ := hm
  intro H locs ls hR1 hS hl hk ho
  refine lv_null hx hb hd1 ?_
  have hcall : CallB R s args own idx y bt n none (Cond.code y bt n none :: zw_T) (zRmi fr lo mc ms) mc ms 2 ∧ y.name = "<init>" ∧ (Cond.instanceMethod y).before args s = true :=
    ⟨callB_of 2 hts (zw_good_ws m6) rfl rfl rfl (hts _ m5i) (hts _ m2) ⟨m7.1, m7.2, m8⟩ hR, m1, hts _ m5⟩
  have hr := va_runI (p := p) (l := l) (e := e) (R := R) (below := below) (meth := meth) (H := H) (locs := locs) (cells := cells) (slots := slots) (b := q9) (As := [.ref b9, .null]) (rest := rest.map zval) (g := F0 m (pc + 1) ls (.null :: .ref b9 :: .ref q9 :: rest.map zval)) ⟨hx, hb, hml, hown, hts⟩ hM hcall
    ⟨yPre_blind, fun U hU hW => ⟨rfl, hpre H locs hR1 hS U hU hW⟩⟩ rfl rfl hl.1 rfl (lv_room (by rw [zsum_len]; exact hk8)) hd hcs
  intro T hT X
  obtain ⟨v, st₀, t, T', L, h0, X', hL, e1, e2, ⟨⟨r, G1, hv, hp, hR2, hok⟩, hz, hkeep⟩, st⟩ := hr T hT X
  have hv' : v = r.map zval := by cases hv; rfl
  subst hv'
  rw [h0] at hz hkeep
  obtain ⟨t2, a1, b1⟩ := kk r G1 hp T'.heap (locs ++ L) ls (by rw [e1]; exact hR2)
    ⟨Nat.le_trans hS.1 (by rw [e1]; exact hz), fun q h1 h2 => by rw [e1, hkeep q (Nat.lt_of_lt_of_le h1 hS.1) h2]; exact hS.2.1 q h1 h2, fun q hq => by
      rcases List.mem_append.mp hq with h | h
      · exact hS.2.2 q h
      · exact hL q h⟩ hl (fun u hu => by
        cases r with
        | none => exact hk u (List.mem_cons_of_mem _ (List.mem_cons_of_mem _ hu))
        | some v =>
          rcases List.mem_cons.mp hu with rfl | hu
          · exact hok _ rfl
          · exact hk u (List.mem_cons_of_mem _ (List.mem_cons_of_mem _ hu))) ho T' rfl X'
  rw [show (zpush r rest).map zval = (r.map zval).toList ++ rest.map zval from zpush_map r rest] at a1
  exact ⟨t2, st t2 a1, b1⟩
end YX
/-- a new string's cells: its fields, its letters -/
def yStr (w : zW) (qs qa n : Nat) (g : Nat → Int32) : va_W := [(qs, .inr (9, [zval (.inr (14, qa)), zval (.inl 0), zval (.inl 0), zval (.inl 0)])), (qa, .inl (zwA w 14, n, .inl g))]
/-- a new object's fields: nothing, then zeros -/
def yF1 : List Value := [.null, zval (.inl 0), zval (.inl 0), zval (.inl 0)]
theorem c_J5_getValue (w : zW) (l : Launch) (b da m n qs : Nat) (f : Nat → Int32) (fs : List Value) : yCt w l yJ5_getValue_6d5f1 cJ5_getValue_6d5f1 1 (some (.array .byte)) 0 0 0 0 [.inr (8, b)] (yL w (yW w b da m n f ++ [(qs, .inr (9, fs))])) (fun r G1 => r = some (.inr (14, da)) ∧ G1 = yL w (yW w b da m n f ++ [(qs, .inr (9, fs))])) := by
  refine yCt.of (own := RJ5) (loc := [some (.inr (8, b))]) (by decide +kernel) rfl (Nat.le_of_ble_eq_true rfl) (fun k v hk => ?_) ?_
  · exact zloc_ok 0 rfl hk
  intro p e s m9 args below meth c C hX Z1 Z2 Z3 hN
  refine y_aload_n C dJ5_getValue_6d5f1_0 rfl ?_
  refine y_get (ci := 8) (j := 0) (q0 := 0) (v := .inr (14, da)) C dJ5_getValue_6d5f1_1 ⟨RJ4, TJ4, 4, rfl, inTJ4, by decide, (zmem 482 (by decide +kernel))⟩ rfl rfl trivial ?_
  exact y_aret C Z1 (Or.inr ⟨_, rfl⟩) Z2 ⟨Nat.le_refl _, Nat.le_refl _⟩ dJ5_getValue_6d5f1_4 ⟨rfl, rfl⟩
theorem c_J5_length (w : zW) (l : Launch) (b da m n qs : Nat) (f : Nat → Int32) (fs : List Value) (hnr : zR (n : Int)) : yCt w l yJ5_length_8abf5 cJ5_length_8abf5 1 (some .int) 0 0 0 0 [.inr (8, b)] (yL w (yW w b da m n f ++ [(qs, .inr (9, fs))])) (fun r G1 => r = some (.inl (n : Int)) ∧ G1 = yL w (yW w b da m n f ++ [(qs, .inr (9, fs))])) := by
  refine yCt.of (own := RJ5) (loc := [some (.inr (8, b))]) (by decide +kernel) rfl (Nat.le_of_ble_eq_true rfl) (fun k v hk => ?_) ?_
  · exact zloc_ok 0 rfl hk
  intro p e s m9 args below meth c C hX Z1 Z2 Z3 hN
  refine y_aload_n C dJ5_length_8abf5_0 rfl ?_
  refine y_get (ci := 8) (j := 3) (q0 := 0) (v := .inl (n : Int)) C dJ5_length_8abf5_1 ⟨RJ4, TJ4, 4, rfl, inTJ4, by decide, (zmem 485 (by decide +kernel))⟩ rfl rfl hnr ?_
  exact y_nret C Z1 Z2 rfl ⟨Nat.le_refl _, Nat.le_refl _⟩ dJ5_length_8abf5_4 ⟨rfl, rfl⟩
theorem c_J4_length (w : zW) (l : Launch) (b da m n qs : Nat) (f : Nat → Int32) (fs : List Value) (hnr : zR (n : Int)) : yCt w l yJ4_length_8abf5 cJ4_length_8abf5 1 (some .int) 1 30 0 0 [.inr (8, b)] (yL w (yW w b da m n f ++ [(qs, .inr (9, fs))])) (fun r G1 => r = some (.inl (n : Int)) ∧ G1 = yL w (yW w b da m n f ++ [(qs, .inr (9, fs))])) := by
  refine yCt.of (own := RJ4) (loc := [some (.inr (8, b))]) (by decide +kernel) rfl (Nat.le_of_ble_eq_true rfl) (fun k v hk => ?_) ?_
  · exact zloc_ok 0 rfl hk
  intro p e s m9 args below meth c C hX Z1 Z2 Z3 hN
  refine y_aload_n C dJ4_length_8abf5_0 rfl ?_
  refine y_callSU (k := 0) (wc := w) C dJ4_length_8abf5_1 ⟨(zmem 673 (by decide +kernel)), (zmem 669 (by decide +kernel)), (zmem 494 (by decide +kernel)), (zmem 668 (by decide +kernel)), (zmem 30 (by decide +kernel)), (zmem 674 (by decide +kernel)), by decide, by decide +kernel⟩ (fun _ h => h) (c_J5_length w l b da m n qs f fs hnr) (fun H locs hG hS => ⟨y_recv (ci := 8) (q0 := 0) C rfl hG rfl, y_pre C hX hN hG hS⟩) rfl ⟨Nat.le_of_ble_eq_true rfl, Nat.le_of_ble_eq_true rfl⟩ ⟨Nat.le_refl _, Nat.le_refl _⟩ ⟨rfl, Nat.le_of_ble_eq_true rfl⟩ (fun r G1 hp => ?_)
  obtain ⟨rfl, rfl⟩ := hp
  refine y_to (fun H h => h.1) ?_
  exact y_nret C Z1 Z2 rfl ⟨Nat.le_refl _, Nat.le_refl _⟩ dJ4_length_8abf5_4 ⟨rfl, rfl⟩
theorem c_J5_isLatin1g (w : zW) (l : Launch) (b da m n qs : Nat) (f : Nat → Int32) (fs : List Value) : yCt w l yJ5_isLatin1_aae02 cJ5_isLatin1_aae02 1 (some .boolean) 0 0 0 0 [.inr (8, b)] (yL w (yW w b da m n f ++ [(qs, .inr (9, fs))])) (fun r G1 => r = some (.inl 1) ∧ G1 = yL w (yW w b da m n f ++ [(qs, .inr (9, fs))])) := by
  refine yCt.of (own := RJ5) (loc := [some (.inr (8, b))]) (by decide +kernel) rfl (Nat.le_of_ble_eq_true rfl) (fun k v hk => ?_) ?_
  · exact zloc_ok 0 rfl hk
  intro p e s m9 args below meth c C hX Z1 Z2 Z3 hN
  refine y_gstC C dJ5_isLatin1_aae02_0 (zmem 473 (by decide +kernel)) ?_
  refine y_if_eq C dJ5_isLatin1_aae02_3 (tgt := 17) (by decide) (fun c1 => absurd c1 (by decide)) (fun _ => ?_)
  refine y_aload_n C dJ5_isLatin1_aae02_6 rfl ?_
  refine y_get (ci := 8) (j := 1) (q0 := 0) (v := .inl 0) C dJ5_isLatin1_aae02_7 ⟨RJ4, TJ4, 4, rfl, inTJ4, by decide, (zmem 483 (by decide +kernel))⟩ rfl rfl zR_0 ?_
  refine y_if_ne C dJ5_isLatin1_aae02_10 (tgt := 17) (by decide) (fun c1 => absurd rfl c1) (fun _ => ?_)
  refine y_iconst C dJ5_isLatin1_aae02_13 rfl ?_
  refine y_goto C dJ5_isLatin1_aae02_14 (tgt := 18) (by decide) ?_
  exact y_nret C Z1 Z2 (by decide) ⟨Nat.le_refl _, Nat.le_refl _⟩ dJ5_isLatin1_aae02_18 ⟨rfl, rfl⟩
theorem c_J7_checkLength (w : zW) (l : Launch) (G : Heap → Prop) (n : Nat) : yCt w l yJ7_checkLength_df160 cJ7_checkLength_df160 2 none 0 0 0 0 [.inl 0, .inl (n : Int)] G (fun r G1 => r = none ∧ G1 = G) := by
  refine yCt.of (own := RJ7) (loc := [some (.inl 0), some (.inl (n : Int))]) (by decide +kernel) rfl (Nat.le_of_ble_eq_true rfl) (fun k v hk => ?_) ?_
  · exact zloc_ok 0 rfl hk
  intro p e s m9 args below meth c C hX Z1 Z2 Z3 hN
  refine y_iload_n C dJ7_checkLength_df160_0 rfl ?_
  refine y_iload_n C dJ7_checkLength_df160_1 rfl ?_
  refine y_icmp_ge C dJ7_checkLength_df160_2 (tgt := 37) (by decide) (fun _ => ?_) (fun c1 => by exfalso; omega)
  exact y_vret C Z1 Z2 ⟨Nat.le_refl _, Nat.le_refl _⟩ dJ7_checkLength_df160_37 ⟨rfl, rfl⟩
theorem c_J7_copyRB (w : zW) (l : Launch) (b da m n qs : Nat) (f : Nat → Int32) (fs : List Value) (hf : sb_Fit f) (hn : n ≤ m) (hm : m ≤ 100000) (hn2 : n ≤ 1500) : yCt w l yJ7_copyOfRangeByte_39247 cJ7_copyOfRangeByte_39247 5 (some (.array .byte)) 1 80 1 1500 [.inr (14, da), .inl 0, .inl (n : Int)] (yL w (yW w b da m n f ++ [(qs, .inr (9, fs))])) (fun r G1 => ∃ (q : Nat) (g : Nat → Int32), r = some (.inr (14, q)) ∧ G1 = yL w (yW w b da m n f ++ [(qs, .inr (9, fs)), (q, .inl (zwA w 14, n, .inl g))]) ∧ sb_Fit g ∧ ∀ i, i < n → g i = f i) := by
  refine yCt.of (own := RJ7) (loc := [some (.inr (14, da)), some (.inl 0), some (.inl (n : Int)), none, none]) (by decide +kernel) rfl (Nat.le_of_ble_eq_true rfl) (fun k v hk => ?_) ?_
  · exact zloc_ok 2 rfl hk
  intro p e s m9 args below meth c C hX Z1 Z2 Z3 hN
  refine y_iload_n C dJ7_copyOfRangeByte_39247_0 rfl ?_
  refine y_iload_n C dJ7_copyOfRangeByte_39247_1 rfl ?_
  refine y_callS (k := 2) (wc := w) C dJ7_copyOfRangeByte_39247_2 ⟨(zmem 682 (by decide +kernel)), (zmem 683 (by decide +kernel)), (zmem 36 (by decide +kernel)), (zmem 684 (by decide +kernel)), ⟨by decide, by decide⟩, by decide +kernel⟩ (fun _ h => h) (c_J7_checkLength w l _ n) (fun H locs hG hS => y_pre C hX hN hG hS) rfl ⟨Nat.le_of_ble_eq_true rfl, Nat.le_of_ble_eq_true rfl⟩ ⟨Nat.zero_le _, Nat.zero_le _⟩ ⟨rfl, Nat.le_of_ble_eq_true rfl⟩ (fun r G1 hp => ?_)
  obtain ⟨rfl, rfl⟩ := hp
  refine y_to (fun H h => h.1) ?_
  refine y_iload_n C dJ7_copyOfRangeByte_39247_5 rfl ?_
  refine y_iload_n C dJ7_copyOfRangeByte_39247_6 rfl ?_
  refine y_isub C dJ7_copyOfRangeByte_39247_7 ?_
  refine y_num (y := (n : Int)) (by rw [zw_id ⟨by omega, by omega⟩]; omega) ?_
  refine y_istore_n C dJ7_copyOfRangeByte_39247_8 (by decide) ?_
  refine y_iload_n C dJ7_copyOfRangeByte_39247_9 rfl ?_
  refine y_newB C (by omega) hN ⟨Nat.le_refl _, by show 0 + n ≤ 1500; omega⟩ (zmem 131 (by decide +kernel)) dJ7_copyOfRangeByte_39247_10 (fun q hq0 => ?_)
  refine y_astore C dJ7_copyOfRangeByte_39247_12 (by decide) ?_
  refine y_aload_n C dJ7_copyOfRangeByte_39247_14 rfl ?_
  refine y_iload_n C dJ7_copyOfRangeByte_39247_15 rfl ?_
  refine y_aload C dJ7_copyOfRangeByte_39247_16 rfl ?_
  refine y_iconst C dJ7_copyOfRangeByte_39247_18 rfl ?_
  refine y_aload_n C dJ7_copyOfRangeByte_39247_19 rfl ?_
  refine y_alen (q0 := 1) C dJ7_copyOfRangeByte_39247_20 rfl (by omega) ?_
  refine y_iload_n C dJ7_copyOfRangeByte_39247_21 rfl ?_
  refine y_isub C dJ7_copyOfRangeByte_39247_22 ?_
  refine y_num (y := (m : Int)) (by rw [zw_id ⟨by omega, by omega⟩]; omega) ?_
  refine y_iload_n C dJ7_copyOfRangeByte_39247_23 rfl ?_
  refine y_mmin C dJ7_copyOfRangeByte_39247_24 (zmem 536 (by decide +kernel)) ⟨Nat.le_of_ble_eq_true rfl, Nat.le_of_ble_eq_true rfl⟩ ⟨Nat.le_refl _, by show 0 + n ≤ 1500; omega⟩ ?_
  refine y_num (y := (n : Int)) (by unfold zmin; split <;> omega) ?_
  refine y_copy (q0 := 1) (q1 := 3) (sp := 0) (dp := 0) (n := n) C dJ7_copyOfRangeByte_39247_27 (zmem 539 (by decide +kernel)) rfl rfl (by omega) (by omega) ⟨by omega, by omega⟩ hf ⟨Nat.le_of_ble_eq_true rfl, Nat.le_of_ble_eq_true rfl⟩ ?_
  refine y_aload C dJ7_copyOfRangeByte_39247_30 rfl ?_
  exact y_aret C Z1 (Or.inr ⟨_, rfl⟩) Z2 ⟨Nat.le_refl _, by show 0 + n ≤ 1500; omega⟩ dJ7_copyOfRangeByte_39247_32 ⟨q, _, rfl, rfl, sb_fitC hf sb_fit0, fun i hi => by unfold va_cpy; rw [if_pos ⟨Nat.zero_le _, by omega⟩, Nat.zero_add, Nat.sub_zero]⟩
theorem c_J7_copyR (w : zW) (l : Launch) (b da m n qs : Nat) (f : Nat → Int32) (fs : List Value) (hf : sb_Fit f) (hn : n ≤ m) (hm : m ≤ 100000) (hn2 : n ≤ 1500) : yCt w l yJ7_copyOfRange_39247 cJ7_copyOfRange_39247 3 (some (.array .byte)) 2 120 1 1500 [.inr (14, da), .inl 0, .inl (n : Int)] (yL w (yW w b da m n f ++ [(qs, .inr (9, fs))])) (fun r G1 => ∃ (q : Nat) (g : Nat → Int32), r = some (.inr (14, q)) ∧ G1 = yL w (yW w b da m n f ++ [(qs, .inr (9, fs)), (q, .inl (zwA w 14, n, .inl g))]) ∧ sb_Fit g ∧ ∀ i, i < n → g i = f i) := by
  refine yCt.of (own := RJ7) (loc := [some (.inr (14, da)), some (.inl 0), some (.inl (n : Int))]) (by decide +kernel) rfl (Nat.le_of_ble_eq_true rfl) (fun k v hk => ?_) ?_
  · exact zloc_ok 0 rfl hk
  intro p e s m9 args below meth c C hX Z1 Z2 Z3 hN
  refine y_iload_n C dJ7_copyOfRange_39247_0 rfl ?_
  refine y_if_ne C dJ7_copyOfRange_39247_1 (tgt := 10) (by decide) (fun c1 => absurd rfl c1) (fun _ => ?_)
  refine y_iload_n C dJ7_copyOfRange_39247_4 rfl ?_
  refine y_aload_n C dJ7_copyOfRange_39247_5 rfl ?_
  refine y_alen (q0 := 1) C dJ7_copyOfRange_39247_6 rfl (by omega) ?_
  refine y_icmp_eq C dJ7_copyOfRange_39247_7 (tgt := 17) (by decide) (fun c1 => ?_) (fun c1 => ?_)
  · have e : n = m := by omega
    subst e
    refine y_aload_n C dJ7_copyOfRange_39247_17 rfl ?_
    refine y_clone (q0 := 1) C dJ7_copyOfRange_39247_18 hN rfl hf hX.1.2.1.1 ⟨(zmem 529 (by decide +kernel)), (zmem 530 (by decide +kernel)), (zmem 531 (by decide +kernel)), (zmem 532 (by decide +kernel)), (zmem 533 (by decide +kernel))⟩ ⟨Nat.le_of_ble_eq_true rfl, Nat.le_of_ble_eq_true rfl⟩ ⟨Nat.le_refl _, by show 0 + n ≤ 1500; omega⟩ (fun q => ?_)
    refine y_castB (q0 := 3) C dJ7_copyOfRange_39247_21 (zmem 535 (by decide +kernel)) rfl ?_
    exact y_aret C Z1 (Or.inr ⟨_, rfl⟩) Z2 ⟨Nat.le_refl _, by show 0 + n ≤ 1500; omega⟩ dJ7_copyOfRange_39247_24 ⟨q, f, rfl, rfl, hf, fun i hi => rfl⟩
  · refine y_aload_n C dJ7_copyOfRange_39247_10 rfl ?_
    refine y_iload_n C dJ7_copyOfRange_39247_11 rfl ?_
    refine y_iload_n C dJ7_copyOfRange_39247_12 rfl ?_
    refine y_callS (k := 3) (wc := w) C dJ7_copyOfRange_39247_13 ⟨(zmem 679 (by decide +kernel)), (zmem 680 (by decide +kernel)), (zmem 36 (by decide +kernel)), (zmem 681 (by decide +kernel)), ⟨by decide, by decide⟩, by decide +kernel⟩ (fun _ h => h) (c_J7_copyRB w l b da m n qs f fs hf hn hm hn2) (fun H locs hG hS => y_pre C hX hN hG hS) rfl ⟨Nat.le_of_ble_eq_true rfl, Nat.le_of_ble_eq_true rfl⟩ ⟨Nat.le_refl _, Nat.le_of_eq (Nat.zero_add _)⟩ ⟨rfl, Nat.le_of_ble_eq_true rfl⟩ (fun r G1 hp => ?_)
    obtain ⟨q, g, rfl, rfl, h1, h2⟩ := hp
    refine y_to (fun H h => h.1) ?_
    exact y_aret C Z1 (Or.inr ⟨_, rfl⟩) Z2 ⟨Nat.le_refl _, Nat.le_of_eq (Nat.zero_add _)⟩ dJ7_copyOfRange_39247_16 ⟨q, g, rfl, rfl, h1, h2⟩
theorem c_J0_initN (w : zW) (l : Launch) (b da m n qs : Nat) (f : Nat → Int32) (hf : sb_Fit f) (hn : n ≤ m) (hm : m ≤ 100000) (hn2 : n ≤ 1500) : Met l yJ0_init_db425 (Cond.code yJ0_init_db425 cJ0_init_db425 5 none :: zw_T) (zRmi 3 150 1 1500) (va_Pc [.ref qs, .ref b, .null] (yPre w (yL w (yW w b da m n f ++ [(qs, .inr (9, yF1))])))) (yQ w (fun r G1 => r = none ∧ ∃ (qa : Nat) (g : Nat → Int32), G1 = yL w (yW w b da m n f ++ yStr w qs qa n g) ∧ sb_Fit g ∧ ∀ i, i < n → g i = f i)) 1 1500 (zA w) := by
  refine va_MetF (cc := cJ0_init_db425) (maxL := 5) (ret := none) (by decide +kernel) rfl ?_
  intro p e s m9 args below meth c s₁ B hml hv
  obtain ⟨rfl, hK, hN, hR⟩ := hv
  have hts := atoms_spec (ws := Cond.code yJ0_init_db425 cJ0_init_db425 5 none :: zw_T) B.pre
  have hown : s.vm.findClass RJ0 = some m9.cls := findClass_of_methodNamed B.named
  have C : zC w p s m9 [Value.ref qs, .ref b, .null].toArray c 5 cJ0_init_db425 RJ0 := ⟨B.exec, B.bytes, hml, hown, fun x hx => hts x (List.mem_cons_of_mem _ hx), hK.1⟩
  have hX := hK.2
  have hlen : (lg_sl [Value.ref qs, .ref b, .null]).length ≤ 5 := Nat.le_of_ble_eq_true rfl
  have hl := lv_entry [Value.ref qs, .ref b, .null] (n := 5) hlen
  rw [lg_entry_eq]
  generalize (lg_sl [Value.ref qs, .ref b, .null] ++ List.replicate (5 - (lg_sl [Value.ref qs, .ref b, .null]).length) Slot.unset).toArray = ls at hl ⊢
  have Z1 := B.returns
  have Z2 := B.notSynchronized
  have Z3 : meth.name = "<init>" := (name_of_methodNamed B.named B.method).1
  have key : yS w p l e (zRmi 3 150 1 1500) s m9 [Value.ref qs, .ref b, .null].toArray below meth c 5 0 0 (MQ below (yQ w (fun r G1 => r = none ∧ ∃ (qa : Nat) (g : Nat → Int32), G1 = yL w (yW w b da m n f ++ yStr w qs qa n g) ∧ sb_Fit g ∧ ∀ i, i < n → g i = f i)) [Value.ref qs, .ref b, .null].toArray s 1 1500 (zA w)) 0 [some (.inr (9, qs)), some (.inr (8, b)), none, none, none] [] (yL w (yW w b da m n f ++ [(qs, .inr (9, yF1))])) := by
    refine y_aload_n C dJ0_init_db425_0 rfl ?_
    refine y_objInit C (zmem 661 (by decide +kernel)) dJ0_init_db425_1 ⟨Nat.le_of_ble_eq_true rfl, Nat.le_of_ble_eq_true rfl⟩ ?_
    refine y_aload_n C dJ0_init_db425_4 rfl ?_
    refine y_callU (k := 0) (wc := w) C hX dJ0_init_db425_5 ⟨(zmem 662 (by decide +kernel)), (zmem 664 (by decide +kernel)), Or.inr (zmem 665 (by decide +kernel)), (zmem 663 (by decide +kernel)), (zmem 30 (by decide +kernel)), (zmem 666 (by decide +kernel)), ⟨by decide, by decide⟩, by decide +kernel⟩ (fun _ h => h) (c_J5_getValue w l b da m n qs f yF1) (fun H locs hG hS => ⟨y_recv (ci := 8) (q0 := 0) C rfl hG rfl, y_pre C hX hN hG hS⟩) rfl ⟨Nat.le_of_ble_eq_true rfl, Nat.le_of_ble_eq_true rfl⟩ ⟨Nat.zero_le _, Nat.zero_le _⟩ ⟨rfl, Nat.le_of_ble_eq_true rfl⟩ (fun r G1 hp => ?_)
    obtain ⟨rfl, rfl⟩ := hp
    refine y_to (fun H h => h.1) ?_
    refine y_astore_n C dJ0_init_db425_8 (by decide) ?_
    refine y_aload_n C dJ0_init_db425_9 rfl ?_
    refine y_callX (x := yJ5_length_8abf5) (k := 0) (wc := w) C dJ0_init_db425_10 ⟨(zmem 667 (by decide +kernel)), (zmem 669 (by decide +kernel)), (zmem 670 (by decide +kernel)), (zmem 668 (by decide +kernel)), ⟨cJ5_length_8abf5, 1, (some .int), (zmem 674 (by decide +kernel))⟩, (zmem 671 (by decide +kernel)), (zmem 31 (by decide +kernel)), (zmem 672 (by decide +kernel)), ⟨by decide, by decide⟩, by decide +kernel⟩ (fun _ h => h) (c_J4_length w l b da m n qs f yF1 ⟨by omega, by omega⟩) (fun H locs hG hS => ⟨y_recv (ci := 8) (q0 := 0) C rfl hG rfl, y_pre C hX hN hG hS⟩) rfl ⟨Nat.le_of_ble_eq_true rfl, Nat.le_of_ble_eq_true rfl⟩ ⟨Nat.zero_le _, Nat.zero_le _⟩ ⟨rfl, Nat.le_of_ble_eq_true rfl⟩ (fun r G1 hp => ?_)
    obtain ⟨rfl, rfl⟩ := hp
    refine y_to (fun H h => h.1) ?_
    refine y_istore C dJ0_init_db425_13 (by decide) ?_
    refine y_aload_n C dJ0_init_db425_15 rfl ?_
    refine y_callU (k := 0) (wc := w) C hX dJ0_init_db425_16 ⟨(zmem 675 (by decide +kernel)), (zmem 542 (by decide +kernel)), Or.inr (zmem 543 (by decide +kernel)), (zmem 541 (by decide +kernel)), (zmem 30 (by decide +kernel)), (zmem 544 (by decide +kernel)), ⟨by decide, by decide⟩, by decide +kernel⟩ (fun _ h => h) (c_J5_isLatin1g w l b da m n qs f yF1) (fun H locs hG hS => ⟨y_recv (ci := 8) (q0 := 0) C rfl hG rfl, y_pre C hX hN hG hS⟩) rfl ⟨Nat.le_of_ble_eq_true rfl, Nat.le_of_ble_eq_true rfl⟩ ⟨Nat.zero_le _, Nat.zero_le _⟩ ⟨rfl, Nat.le_of_ble_eq_true rfl⟩ (fun r G1 hp => ?_)
    obtain ⟨rfl, rfl⟩ := hp
    refine y_to (fun H h => h.1) ?_
    refine y_if_eq C dJ0_init_db425_19 (tgt := 41) (by decide) (fun c1 => absurd c1 (by decide)) (fun _ => ?_)
    refine y_aload_n C dJ0_init_db425_22 rfl ?_
    refine y_iconst C dJ0_init_db425_23 rfl ?_
    refine y_putF (ci := 9) (j := 1) (ty := .byte) (q0 := 2) (v := .inl 0) C Z3 dJ0_init_db425_24 ⟨RJ0, TJ0, 4, tyJ0, rfl, inTJ0, by decide, (zmem 699 (by decide +kernel)), tyJ0_ok, nmJ0, rfl, by decide +kernel, fun _ => rfl⟩ rfl (by decide) (by decide) (Nat.le_of_ble_eq_true rfl) ?_
    refine y_aload_n C dJ0_init_db425_27 rfl ?_
    refine y_aload_n C dJ0_init_db425_28 rfl ?_
    refine y_iconst C dJ0_init_db425_29 rfl ?_
    refine y_iload C dJ0_init_db425_30 rfl ?_
    refine y_callS (k := 3) (wc := w) C dJ0_init_db425_32 ⟨(zmem 676 (by decide +kernel)), (zmem 677 (by decide +kernel)), (zmem 36 (by decide +kernel)), (zmem 678 (by decide +kernel)), ⟨by decide, by decide⟩, by decide +kernel⟩ (fun _ h => h) (c_J7_copyR w l b da m n qs f yF1 hf hn hm hn2) (fun H locs hG hS => y_pre C hX hN hG hS) rfl ⟨Nat.le_of_ble_eq_true rfl, Nat.le_of_ble_eq_true rfl⟩ ⟨Nat.le_refl _, Nat.le_refl _⟩ ⟨rfl, Nat.le_of_ble_eq_true rfl⟩ (fun r G1 hp => ?_)
    obtain ⟨q, g, rfl, rfl, h1, h2⟩ := hp
    refine y_to (fun H h => h.1) ?_
    refine y_putF (ci := 9) (j := 0) (ty := .array .byte) (q0 := 2) (v := .inr (14, q)) C Z3 dJ0_init_db425_35 ⟨RJ0, TJ0, 4, tyJ0, rfl, inTJ0, by decide, (zmem 698 (by decide +kernel)), tyJ0_ok, nmJ0, rfl, by decide +kernel, fun _ => rfl⟩ rfl rfl rfl (Nat.le_of_ble_eq_true rfl) ?_
    refine y_goto C dJ0_init_db425_38 (tgt := 97) (by decide) ?_
    exact y_vret C Z1 Z2 ⟨Nat.le_refl _, Nat.le_refl _⟩ dJ0_init_db425_97 ⟨rfl, q, g, rfl, h1, h2⟩
  refine key s.heap [] ls hR va_S.rf (zlo_sub hl fun q hq => ?_) (fun v hv => by cases hv) (fun v hv => ?_)
  · simp only [zlo, List.mem_cons, List.not_mem_nil, or_false] at hq
    rcases hq with rfl | rfl
    · exact List.mem_cons_self
    · exact List.mem_cons_of_mem _ List.mem_cons_self
  · simp only [List.mem_cons, Option.some.injEq, List.not_mem_nil, or_false, reduceCtorEq] at hv
    rcases hv with rfl | rfl <;> trivial
theorem c_J0_initB (w : zW) (l : Launch) (b da m n qs : Nat) (f : Nat → Int32) (hf : sb_Fit f) (hn : n ≤ m) (hm : m ≤ 100000) (hn2 : n ≤ 1500) : yCt w l yJ0_init_81219 cJ0_init_81219 2 none 4 200 1 1500 [.inr (9, qs), .inr (8, b)] (yL w (yW w b da m n f ++ [(qs, .inr (9, yF1))])) (fun r G1 => r = none ∧ ∃ (qa : Nat) (g : Nat → Int32), G1 = yL w (yW w b da m n f ++ yStr w qs qa n g) ∧ sb_Fit g ∧ ∀ i, i < n → g i = f i) := by
  refine yCt.of (own := RJ0) (loc := [some (.inr (9, qs)), some (.inr (8, b))]) (by decide +kernel) rfl (Nat.le_of_ble_eq_true rfl) (fun k v hk => ?_) ?_
  · exact zloc_ok 0 rfl hk
  intro p e s m9 args below meth c C hX Z1 Z2 Z3 hN
  refine y_aload_n C dJ0_init_81219_0 rfl ?_
  refine y_aload_n C dJ0_init_81219_1 rfl ?_
  refine y_callIN C dJ0_init_81219_2 dJ0_init_81219_3 ⟨rfl, (zmem 658 (by decide +kernel)), (zmem 659 (by decide +kernel)), (zmem 32 (by decide +kernel)), (zmem 660 (by decide +kernel)), ⟨by decide, by decide⟩, by decide +kernel⟩ (c_J0_initN w l b da m n qs f hf hn hm hn2) (fun H locs hG hS => y_pre C hX hN hG hS) rfl ⟨Nat.le_of_ble_eq_true rfl, Nat.le_of_ble_eq_true rfl⟩ ⟨Nat.le_refl _, Nat.le_of_eq (Nat.zero_add _)⟩ (Nat.le_of_ble_eq_true rfl) (fun r G1 hp => ?_)
  obtain ⟨rfl, h1⟩ := hp
  exact y_vret C Z1 Z2 ⟨Nat.le_refl _, Nat.le_of_eq (Nat.zero_add _)⟩ dJ0_init_81219_6 ⟨rfl, h1⟩
theorem c_J4_toString (w : zW) (l : Launch) (b da m : Nat) (t : List Int32) (f : Nat → Int32) (hh : yHold t m f) (hl : t.length ≤ 1500) : yCt w l yJ4_toString_0e30d cJ4_toString_0e30d 1 (some (.object "java/lang/String")) 5 230 2 1504 [.inr (8, b)] (yL w (yW w b da m t.length f)) (fun r G1 => ∃ (qs qa : Nat) (g : Nat → Int32), r = some (.inr (9, qs)) ∧ G1 = yL w (yW w b da m t.length f ++ yStr w qs qa t.length g) ∧ sb_Fit g ∧ ∀ i, i < t.length → g i = t.getD i 0) := by
  refine yCt.of (own := RJ4) (loc := [some (.inr (8, b))]) (by decide +kernel) rfl (Nat.le_of_ble_eq_true rfl) (fun k v hk => ?_) ?_
  · exact zloc_ok 0 rfl hk
  intro p e s m9 args below meth c C hX Z1 Z2 Z3 hN
  have hm4 := hh.2.1
  refine y_new (ci := 9) (N := 4) (fs := yF1) (ty0 := tyJ0) C hN rfl inTJ0 tyJ0_ok (by decide) (zmem 653 (by decide +kernel)) (zmem 654 (by decide +kernel)) (zmem 32 (by decide +kernel)) ⟨Nat.le_of_ble_eq_true rfl, Nat.le_of_ble_eq_true rfl⟩ dJ4_toString_0e30d_0 (fun qs => ?_)
  refine y_dup C dJ4_toString_0e30d_3 ?_
  refine y_aload_n C dJ4_toString_0e30d_4 rfl ?_
  refine y_callI (k := 1) (wc := w) C dJ4_toString_0e30d_5 ⟨rfl, (zmem 655 (by decide +kernel)), (zmem 656 (by decide +kernel)), (zmem 32 (by decide +kernel)), (zmem 657 (by decide +kernel)), ⟨by decide, by decide⟩, by decide +kernel⟩ (fun _ h => h) (c_J0_initB w l b da m t.length qs f hh.2.2.1 hh.1 (by omega) hl) (fun H locs hG hS => y_pre C hX hN hG hS) rfl ⟨Nat.le_of_ble_eq_true rfl, Nat.le_of_ble_eq_true rfl⟩ ⟨Nat.le_refl _, Nat.le_refl _⟩ ⟨rfl, Nat.le_of_ble_eq_true rfl⟩ (fun r G1 hp => ?_)
  obtain ⟨rfl, qa, g, rfl, h1, h2⟩ := hp
  refine y_to (fun H h => h.1) ?_
  exact y_aret C Z1 (Or.inl ⟨_, rfl⟩) Z2 ⟨Nat.le_refl _, Nat.le_refl _⟩ dJ4_toString_0e30d_8 ⟨qs, qa, g, rfl, rfl, h1, fun i hi => (h2 i hi).trans (hh.2.2.2 i hi)⟩
