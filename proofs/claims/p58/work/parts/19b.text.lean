/-! length and charAt of the dynamic text (out of part 19, by wip/p58/mk19b.py). -/
def zTok (w : zW) : Prop := (zwTl w).length ≤ 100000 ∧ ∀ x ∈ zwTl w, 0 ≤ x.toInt ∧ x.toInt < 128
theorem tl_R {w : zW} (hT : zTok w) : -2147483648 ≤ (((zwTl w).length : Nat) : Int) ∧ (((zwTl w).length : Nat) : Int) < 2147483648 := by
  have := hT.1
  omega
theorem zshr_0 {x : Int} (hx : zR x) : zshr x 0 = x := by
  unfold zshr
  rw [show (zi 0 &&& 31) = 0 by decide, Int32.shiftRight_zero, zi_toInt hx]
theorem tl_shr {w : zW} (hT : zTok w) : zshr (((zwTl w).length : Nat) : Int) 0 = (((zwTl w).length : Nat) : Int) := zshr_0 (tl_R hT)
theorem b128 : ∀ q : Fin 128, zand ((q : Nat) : Int) 255 = ((q : Nat) : Int) ∧ narrow .char (.int (zi ((q : Nat) : Int))) = .int (zi ((q : Nat) : Int)) := by decide +kernel
theorem tl_ok {w : zW} (hT : zTok w) {k : Nat} (hk : k < (zwTl w).length) : zand ((zwTl w).getD k 0).toInt 255 = ((zwTl w).getD k 0).toInt ∧ 0 ≤ ((zwTl w).getD k 0).toInt ∧ ((zwTl w).getD k 0).toInt < 256 ∧ narrow .char (.int (zi ((zwTl w).getD k 0).toInt)) = .int (zi ((zwTl w).getD k 0).toInt) := by
  have hm : (zwTl w).getD k 0 ∈ zwTl w := by
    rw [List.getD_eq_getElem?_getD, List.getElem?_eq_getElem hk]
    exact List.getElem_mem hk
  obtain ⟨h0, h1⟩ := hT.2 _ hm
  generalize ((zwTl w).getD k 0).toInt = x at h0 h1
  obtain ⟨q, rfl⟩ : ∃ q : Nat, x = (q : Int) := ⟨x.toNat, by omega⟩
  have := b128 ⟨q, by omega⟩
  exact ⟨this.1, h0, by omega, this.2⟩
theorem zTk {w : zW} {p : Program} {s : State} {m : MethodId} {args : Array Value} {c : Code} {nL : Nat} {cc : ByteArray} {own : String} (C : zC w p s m args c nL cc own) : zTok w := C.2.2.2.2.2.2.2.1.2.2.2.2.2.2.2.2.2.2
section VST
variable {w : zW} {p : Program} {l : Launch} {e : Env} {R : Room} {s : State} {m : MethodId} {args : Array Value} {below : List Frame} {meth : Method} {c : Code} {nL cells slots : Nat} {Q : State → Prop}
variable {cc : ByteArray} {own : String} {pc : Nat} {loc : List (Option zv)} {stk : List zv} {h : zH}
theorem v_scoderT (C : zC w p s m args c nL cc own) {idx : Nat} (hd : decode cc pc = .ok (.getfield idx, 3)) (hm : Cond.fieldLink own idx "java/lang/String" "coder" "B" ∈ zw_T)
    (kk : zV w p l e R s m args below meth c nL cells slots Q (pc + 3) loc (.inl 0 :: stk) h) : zV w p l e R s m args below meth c nL cells slots Q pc loc (.inr (30, zwS w 31) :: stk) h := by
  intro H locs ls hR hS hl hk ho
  obtain ⟨hx, hb, hml, hown, hts, hK⟩ := C
  have e1 : (Value.int 0) = zval (.inl 0) := by show Value.int 0 = Value.int (zi 0); rw [zi_0]
  have hz := (hK.2.2.1.2.2.2.2.2.2.2.2.2.1.2.1 0 Nat.zero_lt_one).2.1
  rw [e1] at hz
  exact vk_getf hx hb hz hS hown (hts _ hm) (fun _ h9 => h9) hd (kk H locs ls hR hS hl (zok_cons (v := .inl 0) zR_0 (zok_tl hk)) ho)
theorem v_svalT (C : zC w p s m args c nL cc own) {idx : Nat} (hd : decode cc pc = .ok (.getfield idx, 3)) (hm : Cond.fieldLink own idx "java/lang/String" "value" "[B" ∈ zw_T)
    (kk : zV w p l e R s m args below meth c nL cells slots Q (pc + 3) loc (.inr (30, zwS w 71) :: stk) h) : zV w p l e R s m args below meth c nL cells slots Q pc loc (.inr (30, zwS w 31) :: stk) h := by
  intro H locs ls hR hS hl hk ho
  obtain ⟨hx, hb, hml, hown, hts, hK⟩ := C
  exact vk_getf hx hb (hK.2.2.1.2.2.2.2.2.2.2.2.2.1.2.1 0 Nat.zero_lt_one).2.2.1 hS hown (hts _ hm) (fun _ h9 => h9) hd (kk H locs ls hR hS hl (zok_cons (v := .inr (30, zwS w 71)) hK.2.2.1.2.2.2.2.2.2.2.2.2.1.1.2 (zok_tl hk)) ho)
theorem v_blenT (hT : zTok w) (C : zC w p s m args c nL cc own) (hd : decode cc pc = .ok (.arraylength, 1))
    (kk : zV w p l e R s m args below meth c nL cells slots Q (pc + 1) loc (.inl (((zwTl w).length : Nat) : Int) :: stk) h) : zV w p l e R s m args below meth c nL cells slots Q pc loc (.inr (30, zwS w 71) :: stk) h := by
  intro H locs ls hR hS hl hk ho
  obtain ⟨hx, hb, hml, hown, hts, hK⟩ := C
  have e1 : Int32.ofNat ((zwTl w).length) = zi (((zwTl w).length : Nat) : Int) := rfl
  exact va_tlen hx hb (hK.2.2.1.2.2.2.2.2.2.2.2.2.1.2.1 0 Nat.zero_lt_one).2.2.2 hS e1 hd (kk H locs ls hR hS hl (zok_cons (v := .inl (((zwTl w).length : Nat) : Int)) (tl_R hT) (zok_tl hk)) ho)
theorem v_bald6T (C : zC w p s m args c nL cc own) {x : Int} (hd : decode cc pc = .ok (.baload, 1)) (h0 : 0 ≤ x) (h1 : x < (((zwTl w).length : Nat) : Int))
    (kk : zV w p l e R s m args below meth c nL cells slots Q (pc + 1) loc (.inl ((zwTl w).getD x.toNat 0).toInt :: stk) h) : zV w p l e R s m args below meth c nL cells slots Q pc loc (.inl x :: .inr (30, zwS w 71) :: stk) h := by
  intro H locs ls hR hS hl hk ho
  obtain ⟨hx, hb, hml, hown, hts, hK⟩ := C
  have hxr : zR x := zok_hd hk
  refine va_tb hx hb (hK.2.2.1.2.2.2.2.2.2.2.2.2.1.2.1 0 Nat.zero_lt_one).2.2.2 hS (zi_in hxr h0 h1) rfl hd ?_
  have e1 : (Value.int (([zwTl w].getD 0 []).getD (zi x).toNatClampNeg 0)) = zval (.inl ((zwTl w).getD x.toNat 0).toInt) := by
    show _ = Value.int (zi _)
    rw [zi_of, zi_nat hxr]
    rfl
  rw [e1]
  exact kk H locs ls hR hS hl (zok_cons (v := .inl _) (zR_of _) (zok_tl (zok_tl hk))) ho
theorem v_callTT (C : zC w p s m args c nL cc own) {idx n k fr lo : Nat} {y : MethodName} {b : ByteArray} {ret : Option FieldType} {As rest : List zv} {post : Option zv → zH → Prop} (hd : decode cc pc = .ok (.invokevirtual idx, 3)) (hm : zMT own idx y b n ret k)
    (hc : zCt w l y b n ret fr lo (.inr (30, zwS w 31) :: As) h post) (hs : stk = As.reverse ++ .inr (30, zwS w 31) :: rest) (hR : fr + 1 ≤ R.frames ∧ 8 + (n + 11) + lo ≤ R.locals) (hcs : cells ≤ R.cells ∧ slots ≤ R.slots) (hk8 : As.length = k ∧ rest.length ≤ 8)
    (kk : ∀ (r : Option zv) (h1 : zH), post r h1 → zV w p l e R s m args below meth c nL cells slots Q (pc + 3) loc (zpush r rest) h1) : zV w p l e R s m args below meth c nL cells slots Q pc loc stk h := by
  obtain ⟨hx, hb, hml, hown, hts, hK⟩ := C
  obtain ⟨m0, m2, m3, m4, m5, m6, m7, m8⟩ := hm
  refine v_ofRun (a := (Value.ref (zwS w 31) :: As.map zval).toArray) (rest := rest) (post := post) ?_ (fun v hv => by rw [hs]; exact List.mem_append_right _ (List.mem_cons_of_mem _ hv)) kk
  intro H locs ls hR1 hS hl hk
  have hka : zwK w (zwS w 31) = 30 + 1 := hk (.inr (30, zwS w 31)) (by rw [hs]; exact List.mem_append_right _ List.mem_cons_self)
  have hM := hc (fun v hv => by
    rcases List.mem_cons.mp hv with rfl | hv
    · exact hka
    · exact hk v (by rw [hs]; exact List.mem_append_left _ (List.mem_reverse.mpr hv)))
  have hcall : CallW R s args own y.cls idx y b n ret (Cond.code y b n ret :: zw_T) (zRm fr lo) 0 0 k :=
    ⟨callB_of k hts (zw_good_ws m6) rfl rfl rfl (hts _ m5) (hts _ m2) ⟨m7.1, m7.2, m8⟩ hR, hts _ m3, hts _ m4⟩
  exact va_runV (p := p) (l := l) (e := e) (R := R) (below := below) (meth := meth) (H := H) (locs := locs) (cells := cells) (slots := slots) (b := zwS w 31) (As := As.map zval) (rest := rest.map zval) (g := F0 m pc ls (stk.map zval)) (C := y.cls) ⟨hx, hb, hml, hown, hts⟩ hM hcall
    ⟨zPre_blind, by have := vk_recv hK.2.2.1.2.2.2.2.2.2.2.2.2.1.2 Nat.zero_lt_one hS; rwa [← m0] at this, fun U hU hW => ⟨rfl, zKn.warm hW hS hU hK, by rw [hU]; exact hR1⟩⟩ rfl (by rw [List.length_map]; exact hk8.1) hl.1 (by
      show stk.map zval = _
      rw [hs, List.map_append, List.map_reverse]
      rfl) (lv_room (by rw [zsum_len]; exact hk8.2)) hd ⟨by simpa using hcs.1, by simpa using hcs.2⟩
theorem v_callTfT (C : zC w p s m args c nL cc own) {idx n k fr lo : Nat} {y : MethodName} {b : ByteArray} {ret : Option FieldType} {As rest : List zv} {v : zv} {h1 : zH} (hd : decode cc pc = .ok (.invokevirtual idx, 3)) (hm : zMT own idx y b n ret k)
    (hc : zCt w l y b n ret fr lo (.inr (30, zwS w 31) :: As) h (zFn (some v) h1)) (hs : stk = As.reverse ++ .inr (30, zwS w 31) :: rest) (hR : fr + 1 ≤ R.frames ∧ 8 + (n + 11) + lo ≤ R.locals) (hcs : cells ≤ R.cells ∧ slots ≤ R.slots) (hk8 : As.length = k ∧ rest.length ≤ 8)
    (kk : zV w p l e R s m args below meth c nL cells slots Q (pc + 3) loc (v :: rest) h1) : zV w p l e R s m args below meth c nL cells slots Q pc loc stk h :=
  v_callTT C hd hm hc hs hR hcs hk8 fun r h2 q => by rw [q.1, q.2]; exact kk
end VST
theorem c_J0_coderT (w : zW) (l : Launch) (h : zH) : zCt w l yJ0_coder_7d493 cJ0_coder_7d493 1 (some .byte) 0 0 [.inr (30, zwS w 31)] h (zFn (some (.inl 0)) h) := by
  refine zCt.ofF (own := RJ0) (loc := [some (.inr (30, zwS w 31))]) (by decide +kernel) rfl (Nat.le_of_ble_eq_true rfl) (fun k v hk => ?_) ?_
  · exact zloc_ok 0 rfl hk
  intro p e s m args below meth c C Z1 Z2 ZA
  refine v_gstC C dJ0_coder_7d493_0 (zmem 579 (by decide +kernel)) ?_
  refine v_if_eq C dJ0_coder_7d493_3 (tgt := 13) (by decide) (fun c1 => absurd c1 (by decide)) (fun _ => ?_)
  refine v_aload_n C dJ0_coder_7d493_6 rfl ?_
  refine v_scoderT C dJ0_coder_7d493_7 (zmem 699 (by decide +kernel)) ?_
  refine v_goto C dJ0_coder_7d493_10 (tgt := 14) (by decide) ?_
  exact v_nret C Z1 Z2 (by decide) dJ0_coder_7d493_14 ⟨rfl, rfl⟩
theorem c_J0_isLatin1T (w : zW) (l : Launch) (h : zH) : zCt w l yJ0_isLatin1_aae02 cJ0_isLatin1_aae02 1 (some .boolean) 0 0 [.inr (30, zwS w 31)] h (zFn (some (.inl 1)) h) := by
  refine zCt.ofF (own := RJ0) (loc := [some (.inr (30, zwS w 31))]) (by decide +kernel) rfl (Nat.le_of_ble_eq_true rfl) (fun k v hk => ?_) ?_
  · exact zloc_ok 0 rfl hk
  intro p e s m args below meth c C Z1 Z2 ZA
  refine v_gstC C dJ0_isLatin1_aae02_0 (zmem 579 (by decide +kernel)) ?_
  refine v_if_eq C dJ0_isLatin1_aae02_3 (tgt := 17) (by decide) (fun c1 => absurd c1 (by decide)) (fun _ => ?_)
  refine v_aload_n C dJ0_isLatin1_aae02_6 rfl ?_
  refine v_scoderT C dJ0_isLatin1_aae02_7 (zmem 699 (by decide +kernel)) ?_
  refine v_if_ne C dJ0_isLatin1_aae02_10 (tgt := 17) (by decide) (fun c1 => absurd rfl c1) (fun _ => ?_)
  refine v_iconst C dJ0_isLatin1_aae02_13 rfl ?_
  refine v_goto C dJ0_isLatin1_aae02_14 (tgt := 18) (by decide) ?_
  exact v_zret C Z1 Z2 (Or.inr rfl) dJ0_isLatin1_aae02_18 ⟨rfl, rfl⟩
theorem c_J0_lengthT (w : zW) (l : Launch) (h : zH) (hT : zTok w) : zCt w l yJ0_length_8abf5 cJ0_length_8abf5 1 (some .int) 1 20 [.inr (30, zwS w 31)] h (zFn (some (.inl (((zwTl w).length : Nat) : Int))) h) := by
  refine zCt.ofF (own := RJ0) (loc := [some (.inr (30, zwS w 31))]) (by decide +kernel) rfl (Nat.le_of_ble_eq_true rfl) (fun k v hk => ?_) ?_
  · exact zloc_ok 0 rfl hk
  intro p e s m args below meth c C Z1 Z2 ZA
  refine v_aload_n C dJ0_length_8abf5_0 rfl ?_
  refine v_svalT C dJ0_length_8abf5_1 (zmem 698 (by decide +kernel)) ?_
  refine v_blenT hT C dJ0_length_8abf5_4 ?_
  refine v_aload_n C dJ0_length_8abf5_5 rfl ?_
  refine v_callTfT (As := []) C dJ0_length_8abf5_6 ⟨rfl, (zmem 575 (by decide +kernel)), (zmem 576 (by decide +kernel)), (zmem 577 (by decide +kernel)), (zmem 32 (by decide +kernel)), (zmem 578 (by decide +kernel)), ⟨by decide, by decide⟩, by decide +kernel⟩ (c_J0_coderT w l h) rfl ⟨by decide, by decide⟩ ⟨Nat.zero_le _, Nat.zero_le _⟩ ⟨rfl, Nat.le_of_ble_eq_true rfl⟩ ?_
  refine v_ishr C dJ0_length_8abf5_9 ?_
  rw [tl_shr hT]
  exact v_iret C Z1 Z2 dJ0_length_8abf5_10 ⟨rfl, rfl⟩
theorem c_J1_charAtT (w : zW) (l : Launch) (h : zH) (hT : zTok w) (x : Int) (h0 : 0 ≤ x) (h1 : x < (((zwTl w).length : Nat) : Int)) : zCt w l yJ1_charAt_3b067 cJ1_charAt_3b067 2 (some .char) 2 43 [.inr (30, zwS w 71), .inl x] h (zFn (some (.inl ((zwTl w).getD x.toNat 0).toInt)) h) := by
  refine zCt.ofF (own := RJ1) (loc := [some (.inr (30, zwS w 71)), some (.inl x)]) (by decide +kernel) rfl (Nat.le_of_ble_eq_true rfl) (fun k v hk => ?_) ?_
  · exact zloc_ok 0 rfl hk
  intro p e s m args below meth c C Z1 Z2 ZA
  have hz := tl_ok hT (k := x.toNat) (by omega)
  refine v_iload_n C dJ1_charAt_3b067_0 rfl ?_
  refine v_aload_n C dJ1_charAt_3b067_1 rfl ?_
  refine v_blenT hT C dJ1_charAt_3b067_2 ?_
  refine v_callSv (k := 2) (As := [.inl x, .inl (((zwTl w).length : Nat) : Int)]) C dJ1_charAt_3b067_3 ⟨(zmem 778 (by decide +kernel)), (zmem 731 (by decide +kernel)), (zmem 32 (by decide +kernel)), (zmem 732 (by decide +kernel)), ⟨by decide, by decide⟩, by decide +kernel⟩ (c_J0_checkIndex w l h x _ h0 h1) rfl ⟨by decide, by decide⟩ ⟨Nat.zero_le _, Nat.zero_le _⟩ ⟨rfl, Nat.le_of_ble_eq_true rfl⟩ ?_
  refine v_aload_n C dJ1_charAt_3b067_6 rfl ?_
  refine v_iload_n C dJ1_charAt_3b067_7 rfl ?_
  refine v_bald6T C dJ1_charAt_3b067_8 h0 h1 ?_
  refine v_sipush C dJ1_charAt_3b067_9 (by decide) rfl ?_
  refine v_iand C dJ1_charAt_3b067_12 ?_
  rw [hz.1]
  refine v_i2c C dJ1_charAt_3b067_13 hz.2.1 hz.2.2.1 ?_
  exact v_nret C Z1 Z2 hz.2.2.2 dJ1_charAt_3b067_14 ⟨rfl, rfl⟩
theorem c_J0_charAtT (w : zW) (l : Launch) (h : zH) (hT : zTok w) (x : Int) (h0 : 0 ≤ x) (h1 : x < (((zwTl w).length : Nat) : Int)) : zCt w l yJ0_charAt_5068e cJ0_charAt_5068e 2 (some .char) 3 64 [.inr (30, zwS w 31), .inl x] h (zFn (some (.inl ((zwTl w).getD x.toNat 0).toInt)) h) := by
  refine zCt.ofF (own := RJ0) (loc := [some (.inr (30, zwS w 31)), some (.inl x)]) (by decide +kernel) rfl (Nat.le_of_ble_eq_true rfl) (fun k v hk => ?_) ?_
  · exact zloc_ok 0 rfl hk
  intro p e s m args below meth c C Z1 Z2 ZA
  have hz := tl_ok hT (k := x.toNat) (by omega)
  refine v_aload_n C dJ0_charAt_5068e_0 rfl ?_
  refine v_callTfT (As := []) C dJ0_charAt_5068e_1 ⟨rfl, (zmem 771 (by decide +kernel)), (zmem 772 (by decide +kernel)), (zmem 773 (by decide +kernel)), (zmem 32 (by decide +kernel)), (zmem 774 (by decide +kernel)), ⟨by decide, by decide⟩, by decide +kernel⟩ (c_J0_isLatin1T w l h) rfl ⟨by decide, by decide⟩ ⟨Nat.zero_le _, Nat.zero_le _⟩ ⟨rfl, Nat.le_of_ble_eq_true rfl⟩ ?_
  refine v_if_eq C dJ0_charAt_5068e_4 (tgt := 16) (by decide) (fun c1 => absurd c1 (by decide)) (fun _ => ?_)
  refine v_aload_n C dJ0_charAt_5068e_7 rfl ?_
  refine v_svalT C dJ0_charAt_5068e_8 (zmem 698 (by decide +kernel)) ?_
  refine v_iload_n C dJ0_charAt_5068e_11 rfl ?_
  refine v_callSf (k := 2) (As := [.inr (30, zwS w 71), .inl x]) C dJ0_charAt_5068e_12 ⟨(zmem 775 (by decide +kernel)), (zmem 776 (by decide +kernel)), (zmem 38 (by decide +kernel)), (zmem 777 (by decide +kernel)), ⟨by decide, by decide⟩, by decide +kernel⟩ (c_J1_charAtT w l h hT x h0 h1) rfl ⟨by decide, by decide⟩ ⟨Nat.zero_le _, Nat.zero_le _⟩ ⟨rfl, Nat.le_of_ble_eq_true rfl⟩ ?_
  exact v_nret C Z1 Z2 hz.2.2.2 dJ0_charAt_5068e_15 ⟨rfl, rfl⟩
def q_J0_lengthT (w : zW) : Option Int := some (((zwTl w).length : Nat) : Int)
def q_J0_charAtT (w : zW) (x : Int) : Option Int := if 0 ≤ x ∧ x < (((zwTl w).length : Nat) : Int) then some ((zwTl w).getD x.toNat 0).toInt else none
theorem q_strlengthT {α : Type} {w : zW} {p : Program} {l : Launch} {e : Env} {R : Room} {s : State} {m : MethodId} {args : Array Value} {below : List Frame} {meth : Method} {c : Code} {nL : Nat} {f : α → Option zv} {cc : ByteArray} {own : String} {pc : Nat} {loc : List (Option zv)} {stk : List zv} {h : zH} (C : zC w p s m args c nL cc own) {idx : Nat} {k : Int → Option (α × zH)} (hd : decode cc pc = .ok (.invokevirtual idx, 3)) (hm : Cond.methodLink own idx yJ0_length_8abf5 ∈ zw_T) (hR : 1 + 1 ≤ R.frames ∧ 8 + (1 + 11) + 20 ≤ R.locals) (h8 : stk.length ≤ 8)
    (kk : ∀ v, zQV w p l e R s m args below meth c nL f (k v) (pc + 3) loc (.inl v :: stk) h) : zQV w p l e R s m args below meth c nL f (zbp (q_J0_lengthT w) k) pc loc (.inr (30, zwS w 31) :: stk) h := by
  intro r h' z
  exact v_callTfT (As := []) (k := 0) C hd ⟨rfl, hm, (zmem 572 (by decide +kernel)), (zmem 573 (by decide +kernel)), (zmem 32 (by decide +kernel)), (zmem 574 (by decide +kernel)), ⟨by decide, by decide⟩, by decide +kernel⟩ (c_J0_lengthT w l h (zTk C)) rfl hR ⟨Nat.zero_le _, Nat.zero_le _⟩ ⟨rfl, h8⟩ (kk _ r h' z)
theorem p_strlengthT {α : Type} {w : zW} {p : Program} {l : Launch} {e : Env} {R : Room} {s : State} {m : MethodId} {args : Array Value} {below : List Frame} {meth : Method} {c : Code} {nL : Nat} {f : α → Option zv} {cc : ByteArray} {own : String} {pc : Nat} {loc : List (Option zv)} {stk : List zv} {h : zH} (C : zC w p s m args c nL cc own) {idx : Nat} {k : Int → Option (α)} (hd : decode cc pc = .ok (.invokevirtual idx, 3)) (hm : Cond.methodLink own idx yJ0_length_8abf5 ∈ zw_T) (hR : 1 + 1 ≤ R.frames ∧ 8 + (1 + 11) + 20 ≤ R.locals) (h8 : stk.length ≤ 8)
    (kk : ∀ v, zQP w p l e R s m args below meth c nL f (k v) (pc + 3) loc (.inl v :: stk) h) : zQP w p l e R s m args below meth c nL f (zbp (q_J0_lengthT w) k) pc loc (.inr (30, zwS w 31) :: stk) h := by
  intro r z
  exact v_callTfT (As := []) (k := 0) C hd ⟨rfl, hm, (zmem 572 (by decide +kernel)), (zmem 573 (by decide +kernel)), (zmem 32 (by decide +kernel)), (zmem 574 (by decide +kernel)), ⟨by decide, by decide⟩, by decide +kernel⟩ (c_J0_lengthT w l h (zTk C)) rfl hR ⟨Nat.zero_le _, Nat.zero_le _⟩ ⟨rfl, h8⟩ (kk _ r z)
theorem q_strcharAtT {α : Type} {w : zW} {p : Program} {l : Launch} {e : Env} {R : Room} {s : State} {m : MethodId} {args : Array Value} {below : List Frame} {meth : Method} {c : Code} {nL : Nat} {f : α → Option zv} {cc : ByteArray} {own : String} {pc : Nat} {loc : List (Option zv)} {stk : List zv} {h : zH} (C : zC w p s m args c nL cc own) {idx : Nat} {x : Int} {k : Int → Option (α × zH)} (hd : decode cc pc = .ok (.invokevirtual idx, 3)) (hm : Cond.methodLink own idx yJ0_charAt_5068e ∈ zw_T) (hR : 3 + 1 ≤ R.frames ∧ 8 + (2 + 11) + 64 ≤ R.locals) (h8 : stk.length ≤ 8)
    (kk : ∀ v, zQV w p l e R s m args below meth c nL f (k v) (pc + 3) loc (.inl v :: stk) h) : zQV w p l e R s m args below meth c nL f (zbp (q_J0_charAtT w x) k) pc loc (.inl x :: .inr (30, zwS w 31) :: stk) h := by
  intro r h' z
  unfold q_J0_charAtT at z
  by_cases hi : 0 ≤ x ∧ x < (((zwTl w).length : Nat) : Int)
  · rw [if_pos hi] at z
    exact v_callTfT (As := [.inl x]) (k := 1) C hd ⟨rfl, hm, (zmem 768 (by decide +kernel)), (zmem 769 (by decide +kernel)), (zmem 32 (by decide +kernel)), (zmem 770 (by decide +kernel)), ⟨by decide, by decide⟩, by decide +kernel⟩ (c_J0_charAtT w l h (zTk C) x hi.1 hi.2) rfl hR ⟨Nat.zero_le _, Nat.zero_le _⟩ ⟨rfl, h8⟩ (kk _ r h' z)
  · rw [if_neg hi] at z
    cases z
theorem p_strcharAtT {α : Type} {w : zW} {p : Program} {l : Launch} {e : Env} {R : Room} {s : State} {m : MethodId} {args : Array Value} {below : List Frame} {meth : Method} {c : Code} {nL : Nat} {f : α → Option zv} {cc : ByteArray} {own : String} {pc : Nat} {loc : List (Option zv)} {stk : List zv} {h : zH} (C : zC w p s m args c nL cc own) {idx : Nat} {x : Int} {k : Int → Option (α)} (hd : decode cc pc = .ok (.invokevirtual idx, 3)) (hm : Cond.methodLink own idx yJ0_charAt_5068e ∈ zw_T) (hR : 3 + 1 ≤ R.frames ∧ 8 + (2 + 11) + 64 ≤ R.locals) (h8 : stk.length ≤ 8)
    (kk : ∀ v, zQP w p l e R s m args below meth c nL f (k v) (pc + 3) loc (.inl v :: stk) h) : zQP w p l e R s m args below meth c nL f (zbp (q_J0_charAtT w x) k) pc loc (.inl x :: .inr (30, zwS w 31) :: stk) h := by
  intro r z
  unfold q_J0_charAtT at z
  by_cases hi : 0 ≤ x ∧ x < (((zwTl w).length : Nat) : Int)
  · rw [if_pos hi] at z
    exact v_callTfT (As := [.inl x]) (k := 1) C hd ⟨rfl, hm, (zmem 768 (by decide +kernel)), (zmem 769 (by decide +kernel)), (zmem 32 (by decide +kernel)), (zmem 770 (by decide +kernel)), ⟨by decide, by decide⟩, by decide +kernel⟩ (c_J0_charAtT w l h (zTk C) x hi.1 hi.2) rfl hR ⟨Nat.zero_le _, Nat.zero_le _⟩ ⟨rfl, h8⟩ (kk _ r z)
  · rw [if_neg hi] at z
    cases z
