/-! Strings: length and charAt, the JDK's own code walked; a static row copied. -/
section VST
variable {w : zW} {p : Program} {l : Launch} {e : Env} {R : Room} {s : State} {m : MethodId} {args : Array Value} {below : List Frame} {meth : Method} {c : Code} {nL cells slots : Nat} {Q : State → Prop}
variable {cc : ByteArray} {own : String} {pc : Nat} {loc : List (Option zv)} {stk : List zv} {h : zH}
theorem v_gstC (C : zC w p s m args c nL cc own) {idx : Nat} (hd : decode cc pc = .ok (.getstatic idx, 3)) (hm : Cond.fieldLink own idx "java/lang/String" "COMPACT_STRINGS" "Z" ∈ zw_T)
    (kk : zV w p l e R s m args below meth c nL cells slots Q (pc + 3) loc (.inl 1 :: stk) h) : zV w p l e R s m args below meth c nL cells slots Q pc loc stk h := by
  intro H locs ls hR hS hl hk ho
  obtain ⟨hx, hb, hml, hown, hts, hK⟩ := C
  have e1 : (Value.int 1) = zval (.inl 1) := by show Value.int 1 = Value.int (zi 1); rw [show zi 1 = 1 by decide]
  have hz := hK.2.2.1.2.1
  rw [e1] at hz
  exact va_gets hx hb hz hS hown (hts _ hm) (fun _ h9 => h9) hd (kk H locs ls hR hS hl (zok_cons (v := .inl 1) ⟨by decide, by decide⟩ hk) ho)
theorem v_scoder (C : zC w p s m args c nL cc own) {idx i : Nat} (hd : decode cc pc = .ok (.getfield idx, 3)) (hm : Cond.fieldLink own idx "java/lang/String" "coder" "B" ∈ zw_T) (hi : i < 16)
    (kk : zV w p l e R s m args below meth c nL cells slots Q (pc + 3) loc (.inl 0 :: stk) h) : zV w p l e R s m args below meth c nL cells slots Q pc loc (.inr (30, zwS w i) :: stk) h := by
  intro H locs ls hR hS hl hk ho
  obtain ⟨hx, hb, hml, hown, hts, hK⟩ := C
  have e1 : (Value.int 0) = zval (.inl 0) := by show Value.int 0 = Value.int (zi 0); rw [zi_0]
  have hz := (hK.2.2.1.2.2.1.1 i hi).2.1
  rw [e1] at hz
  exact vk_getf hx hb hz hS hown (hts _ hm) (fun _ h9 => h9) hd (kk H locs ls hR hS hl (zok_cons (v := .inl 0) zR_0 (zok_tl hk)) ho)
theorem v_sval (C : zC w p s m args c nL cc own) {idx i : Nat} (hd : decode cc pc = .ok (.getfield idx, 3)) (hm : Cond.fieldLink own idx "java/lang/String" "value" "[B" ∈ zw_T) (hi : i < 16)
    (kk : zV w p l e R s m args below meth c nL cells slots Q (pc + 3) loc (.inr (30, zwS w (40 + i)) :: stk) h) : zV w p l e R s m args below meth c nL cells slots Q pc loc (.inr (30, zwS w i) :: stk) h := by
  intro H locs ls hR hS hl hk ho
  obtain ⟨hx, hb, hml, hown, hts, hK⟩ := C
  exact vk_getf hx hb (hK.2.2.1.2.2.1.1 i hi).2.2.1 hS hown (hts _ hm) (fun _ h9 => h9) hd (kk H locs ls hR hS hl (zok_cons (v := .inr (30, zwS w (40 + i))) (hK.2.2.1.2.2.2.1 i hi).2 (zok_tl hk)) ho)
theorem zsL_R : ∀ i, i < 16 → -2147483648 ≤ ((zsL.getD i 0 : Nat) : Int) ∧ ((zsL.getD i 0 : Nat) : Int) < 2147483648 := by decide
theorem v_blen (C : zC w p s m args c nL cc own) {i : Nat} (hd : decode cc pc = .ok (.arraylength, 1)) (hi : i < 16)
    (kk : zV w p l e R s m args below meth c nL cells slots Q (pc + 1) loc (.inl ((zsL.getD i 0 : Nat) : Int) :: stk) h) : zV w p l e R s m args below meth c nL cells slots Q pc loc (.inr (30, zwS w (40 + i)) :: stk) h := by
  intro H locs ls hR hS hl hk ho
  obtain ⟨hx, hb, hml, hown, hts, hK⟩ := C
  have e1 : Int32.ofNat (zsL.getD i 0) = zi ((zsL.getD i 0 : Nat) : Int) := rfl
  exact va_tlen hx hb (hK.2.2.1.2.2.1.1 i hi).2.2.2 hS e1 hd (kk H locs ls hR hS hl (zok_cons (v := .inl ((zsL.getD i 0 : Nat) : Int)) (zsL_R i hi) (zok_tl hk)) ho)
theorem v_bald6 (C : zC w p s m args c nL cc own) {i : Nat} {x : Int} (hd : decode cc pc = .ok (.baload, 1)) (hi : i < 16) (h0 : 0 ≤ x) (h1 : x < ((zsL.getD i 0 : Nat) : Int))
    (kk : zV w p l e R s m args below meth c nL cells slots Q (pc + 1) loc (.inl ((zsB.getD i []).getD x.toNat 0).toInt :: stk) h) : zV w p l e R s m args below meth c nL cells slots Q pc loc (.inl x :: .inr (30, zwS w (40 + i)) :: stk) h := by
  intro H locs ls hR hS hl hk ho
  obtain ⟨hx, hb, hml, hown, hts, hK⟩ := C
  have hxr : zR x := zok_hd hk
  refine va_tb hx hb (hK.2.2.1.2.2.1.1 i hi).2.2.2 hS (zi_in hxr h0 h1) rfl hd ?_
  have e1 : (Value.int ((zsB.getD i []).getD (zi x).toNatClampNeg 0)) = zval (.inl ((zsB.getD i []).getD x.toNat 0).toInt) := by
    show _ = Value.int (zi _)
    rw [zi_of, zi_nat hxr]
  rw [e1]
  exact kk H locs ls hR hS hl (zok_cons (v := .inl _) (zR_of _) (zok_tl (zok_tl hk))) ho
theorem v_i2c (C : zC w p s m args c nL cc own) {x : Int} (hd : decode cc pc = .ok (.i2c, 1)) (h0 : 0 ≤ x) (h1 : x < 256)
    (kk : zV w p l e R s m args below meth c nL cells slots Q (pc + 1) loc (.inl x :: stk) h) : zV w p l e R s m args below meth c nL cells slots Q pc loc (.inl x :: stk) h := by
  intro H locs ls hR hS hl hk ho
  obtain ⟨hx, hb, hml, hown, hts, hK⟩ := C
  refine lv_i2c (v := zi x) hx hb hd ?_ (kk H locs ls hR hS hl hk ho)
  obtain ⟨k, rfl⟩ : ∃ k : Nat, x = (k : Int) := ⟨x.toNat, by omega⟩
  have hk2 : k < 256 := by omega
  revert hk2
  generalize k = q
  intro hq
  have : ∀ q : Fin 256, ((zi ((q : Nat) : Int)).toUInt32 % 65536).toInt32 = zi ((q : Nat) : Int) := by decide +kernel
  exact this ⟨q, hq⟩
theorem v_nret {post : Option zv → zH → Prop} (C : zC w p s m args c nL cc own) {x : Int} {ty : FieldType} (hr : meth.sig.returnType = some ty) (hlk : meth.locks = false) (hn : narrow ty (.int (zi x)) = .int (zi x)) (hd : decode cc pc = .ok (.ireturn, 1)) (hp : post (some (.inl x)) h) : zV w p l e R s m args below meth c nL cells slots (MQ below (zQ w post) args s cells slots (zA w)) pc loc [.inl x] h := by
  intro H locs ls hR hS hl hk ho
  obtain ⟨hx, hb, hml, hown, hts, hK⟩ := C
  exact W.zret (v := zi x) (ty := ty) hx hb hr hn (fun t ht hW => ⟨⟨some (.inl x), h, rfl, hp, by rw [ht]; exact hR, fun v hv => by cases hv; exact zok_hd hk⟩, hS.F ht⟩) hS.2.2 hd hlk
/-- a call of a string's own method -/
def zMT (own : String) (idx : Nat) (y : MethodName) (b : ByteArray) (n : Nat) (ret : Option FieldType) (k : Nat) : Prop :=
  y.cls = "java/lang/String" ∧ Cond.methodLink own idx y ∈ zw_T ∧ Cond.instanceMethod y ∈ zw_T ∧ Cond.selects y.cls y y ∈ zw_T ∧ Cond.initialized y.cls ∈ zw_T ∧ Cond.code y b n ret ∈ zw_T ∧ (y.cls ≠ "java/lang/invoke/MethodHandle" ∧ y.cls ≠ "java/lang/invoke/VarHandle") ∧ (parseMethodDescriptor y.desc).map (fun d => d.parameters.length) = some k
theorem v_callT (C : zC w p s m args c nL cc own) {idx i n k fr lo : Nat} {y : MethodName} {b : ByteArray} {ret : Option FieldType} {As rest : List zv} {post : Option zv → zH → Prop} (hd : decode cc pc = .ok (.invokevirtual idx, 3)) (hm : zMT own idx y b n ret k) (hi : i < 16)
    (hc : zCt w l y b n ret fr lo (.inr (30, zwS w i) :: As) h post) (hs : stk = As.reverse ++ .inr (30, zwS w i) :: rest) (hR : fr + 1 ≤ R.frames ∧ 8 + (n + 11) + lo ≤ R.locals) (hcs : cells ≤ R.cells ∧ slots ≤ R.slots) (hk8 : As.length = k ∧ rest.length ≤ 8)
    (kk : ∀ (r : Option zv) (h1 : zH), post r h1 → zV w p l e R s m args below meth c nL cells slots Q (pc + 3) loc (zpush r rest) h1) : zV w p l e R s m args below meth c nL cells slots Q pc loc stk h := by
  obtain ⟨hx, hb, hml, hown, hts, hK⟩ := C
  obtain ⟨m0, m2, m3, m4, m5, m6, m7, m8⟩ := hm
  refine v_ofRun (a := (Value.ref (zwS w i) :: As.map zval).toArray) (rest := rest) (post := post) ?_ (fun v hv => by rw [hs]; exact List.mem_append_right _ (List.mem_cons_of_mem _ hv)) kk
  intro H locs ls hR1 hS hl hk
  have hka : zwK w (zwS w i) = 30 + 1 := hk (.inr (30, zwS w i)) (by rw [hs]; exact List.mem_append_right _ List.mem_cons_self)
  have hM := hc (fun v hv => by
    rcases List.mem_cons.mp hv with rfl | hv
    · exact hka
    · exact hk v (by rw [hs]; exact List.mem_append_left _ (List.mem_reverse.mpr hv)))
  have hcall : CallW R s args own y.cls idx y b n ret (Cond.code y b n ret :: zw_T) (zRm fr lo) 0 0 k :=
    ⟨callB_of k hts (zw_good_ws m6) rfl rfl rfl (hts _ m5) (hts _ m2) ⟨m7.1, m7.2, m8⟩ hR, hts _ m3, hts _ m4⟩
  exact va_runV (p := p) (l := l) (e := e) (R := R) (below := below) (meth := meth) (H := H) (locs := locs) (cells := cells) (slots := slots) (b := zwS w i) (As := As.map zval) (rest := rest.map zval) (g := F0 m pc ls (stk.map zval)) (C := y.cls) ⟨hx, hb, hml, hown, hts⟩ hM hcall
    ⟨zPre_blind, by have := vk_recv hK.2.2.1.2.2.1 hi hS; rwa [← m0] at this, fun U hU hW => ⟨rfl, zKn.warm hW hS hU hK, by rw [hU]; exact hR1⟩⟩ rfl (by rw [List.length_map]; exact hk8.1) hl.1 (by
      show stk.map zval = _
      rw [hs, List.map_append, List.map_reverse]
      rfl) (lv_room (by rw [zsum_len]; exact hk8.2)) hd ⟨by simpa using hcs.1, by simpa using hcs.2⟩
theorem v_callTf (C : zC w p s m args c nL cc own) {idx i n k fr lo : Nat} {y : MethodName} {b : ByteArray} {ret : Option FieldType} {As rest : List zv} {v : zv} {h1 : zH} (hd : decode cc pc = .ok (.invokevirtual idx, 3)) (hm : zMT own idx y b n ret k) (hi : i < 16)
    (hc : zCt w l y b n ret fr lo (.inr (30, zwS w i) :: As) h (zFn (some v) h1)) (hs : stk = As.reverse ++ .inr (30, zwS w i) :: rest) (hR : fr + 1 ≤ R.frames ∧ 8 + (n + 11) + lo ≤ R.locals) (hcs : cells ≤ R.cells ∧ slots ≤ R.slots) (hk8 : As.length = k ∧ rest.length ≤ 8)
    (kk : zV w p l e R s m args below meth c nL cells slots Q (pc + 3) loc (v :: rest) h1) : zV w p l e R s m args below meth c nL cells slots Q pc loc stk h :=
  v_callT C hd hm hi hc hs hR hcs hk8 fun r h2 q => by rw [q.1, q.2]; exact kk
/-- an index's test of the JDK, passed: the formatter on top of the two numbers -/
def zMF (own : String) (idx idx2 : Nat) : Prop := Cond.fieldLink own idx "jdk/internal/util/Preconditions" "SIOOBE_FORMATTER" "Ljava/util/function/BiFunction;" ∈ zw_T ∧ Cond.methodLink own idx2 yJ3_checkIndex_8e157 ∈ zw_T ∧ Cond.static yJ3_checkIndex_8e157 ∈ zw_T ∧ Cond.initialized yJ3_checkIndex_8e157.cls ∈ zw_T ∧ Cond.code yJ3_checkIndex_8e157 cJ3_checkIndex_8e157 3 (some .int) ∈ zw_T
end VST
theorem c_J3_checkIndex (w : zW) (l : Launch) (h : zH) (i n : Int) (u : Value) (hu : u.category = 1) (h0 : 0 ≤ i) (h1 : i < n) (hir : zR i) (hnr : zR n) : Met l yJ3_checkIndex_8e157 (Cond.code yJ3_checkIndex_8e157 cJ3_checkIndex_8e157 3 (some .int) :: zw_T) (zRm 0 0) (va_Pc [.int (zi i), .int (zi n), u] (zPre w h)) (zQ w (zFn (some (.inl i)) h)) 0 0 (zA w) := by
  refine va_MetF (cc := cJ3_checkIndex_8e157) (maxL := 3) (ret := some .int) (by decide +kernel) rfl ?_
  intro p e s m args below meth c s₁ B hml hv
  obtain ⟨rfl, hK, hR⟩ := hv
  have hts := atoms_spec (ws := Cond.code yJ3_checkIndex_8e157 cJ3_checkIndex_8e157 3 (some .int) :: zw_T) B.pre
  have hown : s.vm.findClass RJ3 = some m.cls := findClass_of_methodNamed B.named
  have C : zC w p s m [.int (zi i), .int (zi n), u].toArray c 3 cJ3_checkIndex_8e157 RJ3 := ⟨B.exec, B.bytes, hml, hown, fun x hx => hts x (List.mem_cons_of_mem _ hx), hK⟩
  have hsl : lg_sl [.int (zi i), .int (zi n), u] = [.val (.int (zi i)), .val (.int (zi n)), .val u] := by
    have : lg_sl [u] = [.val u] := by
      cases u <;> first | rfl | (exact absurd (show (2 : Nat) = 1 from hu) (by decide))
    show .val (.int (zi i)) :: .val (.int (zi n)) :: lg_sl [u] = _
    rw [this]
  have hl := lv_entry [.int (zi i), .int (zi n), u] (n := 3) (by rw [hsl]; exact Nat.le_refl 3)
  rw [lg_entry_eq]
  generalize (lg_sl [.int (zi i), .int (zi n), u] ++ List.replicate (3 - (lg_sl [.int (zi i), .int (zi n), u]).length) Slot.unset).toArray = ls at hl ⊢
  have Z1 := B.returns
  have Z2 := B.notSynchronized
  have hb : zV w p l e (zRm 0 0) s m [.int (zi i), .int (zi n), u].toArray below meth c 3 0 0 (MQ below (zQ w (zFn (some (.inl i)) h)) [.int (zi i), .int (zi n), u].toArray s 0 0 (zA w)) 0 [some (.inl i), some (.inl n), none] [] h := by
    refine v_iload_n C dJ3_checkIndex_8e157_0 rfl ?_
    refine v_if_lt C dJ3_checkIndex_8e157_1 (tgt := 9) (by decide) (fun c1 => absurd c1 (by omega)) (fun _ => ?_)
    refine v_iload_n C dJ3_checkIndex_8e157_4 rfl ?_
    refine v_iload_n C dJ3_checkIndex_8e157_5 rfl ?_
    refine v_icmp_lt C dJ3_checkIndex_8e157_6 (tgt := 16) (by decide) (fun _ => ?_) (fun c6 => absurd h1 c6)
    refine v_iload_n C dJ3_checkIndex_8e157_16 rfl ?_
    exact v_iret C Z1 Z2 dJ3_checkIndex_8e157_17 ⟨rfl, rfl⟩
  refine hb s.heap [] ls hR va_S.rf (zlo_sub hl fun q hq => ?_) (fun v hv => by cases hv) (fun v hv => ?_)
  · simp only [zlo, List.mem_cons, List.not_mem_nil, or_false] at hq
    rcases hq with rfl | rfl
    · exact List.mem_cons_self
    · exact List.mem_cons_of_mem _ List.mem_cons_self
  · simp only [List.mem_cons, List.not_mem_nil, or_false, Option.some.injEq, reduceCtorEq] at hv
    rcases hv with rfl | rfl
    · exact hir
    · exact hnr
section VST2
variable {w : zW} {p : Program} {l : Launch} {e : Env} {R : Room} {s : State} {m : MethodId} {args : Array Value} {below : List Frame} {meth : Method} {c : Code} {nL cells slots : Nat} {Q : State → Prop}
variable {cc : ByteArray} {own : String} {pc : Nat} {loc : List (Option zv)} {stk : List zv} {h : zH}
theorem v_sioobe (C : zC w p s m args c nL cc own) {idx idx2 : Nat} {i n : Int} (hd : decode cc pc = .ok (.getstatic idx, 3)) (hd2 : decode cc (pc + 3) = .ok (.invokestatic idx2, 3)) (hm : zMF own idx idx2) (h0 : 0 ≤ i) (h1 : i < n) (hR : 1 ≤ R.frames ∧ 8 + (3 + 11) + 0 ≤ R.locals) (hcs : cells ≤ R.cells ∧ slots ≤ R.slots) (h8 : stk.length ≤ 8)
    (kk : zV w p l e R s m args below meth c nL cells slots Q (pc + 6) loc (.inl i :: stk) h) : zV w p l e R s m args below meth c nL cells slots Q pc loc (.inl n :: .inl i :: stk) h := by
  intro H locs ls hR1 hS hl hk ho
  obtain ⟨hx, hb, hml, hown, hts, hK⟩ := C
  obtain ⟨m1, m2, m3, m5, m6⟩ := hm
  have hnr : zR n := zok_hd hk
  have hir : zR i := zok_hd (zok_tl hk)
  have go : ∀ u : Value, u.category = 1 → W p l e R s m args below meth c H locs cells slots Q (F0 m (pc + 3) ls (u :: .int (zi n) :: .int (zi i) :: stk.map zval)) := by
    intro u hu
    have hM := c_J3_checkIndex w l h i n u hu h0 h1 hir hnr
    have hcall : CallB R s args own idx2 yJ3_checkIndex_8e157 cJ3_checkIndex_8e157 3 (some .int) (Cond.code yJ3_checkIndex_8e157 cJ3_checkIndex_8e157 3 (some .int) :: zw_T) (zRm 0 0) 0 0 3 ∧ (Cond.static yJ3_checkIndex_8e157).before args s = true :=
      ⟨callB_of 3 hts (zw_good_ws m6) rfl rfl rfl (hts _ m5) (hts _ m2) ⟨by decide, by decide, by decide +kernel⟩ hR, hts _ m3⟩
    have hrun := va_runS (p := p) (l := l) (e := e) (R := R) (below := below) (meth := meth) (H := H) (locs := locs) (cells := cells) (slots := slots) (As := [.int (zi i), .int (zi n), u]) (rest := stk.map zval) (g := F0 m (pc + 3) ls (u :: .int (zi n) :: .int (zi i) :: stk.map zval)) ⟨hx, hb, hml, hown, hts⟩ hM hcall
      ⟨zPre_blind, fun U hU hW => ⟨rfl, zKn.warm hW hS hU hK, by rw [hU]; exact hR1⟩⟩ rfl rfl hl.1 rfl (lv_room (by rw [zsum_len]; exact h8)) hd2 ⟨by simpa using hcs.1, by simpa using hcs.2⟩
    intro T hT X
    obtain ⟨v, st₀, t, T', L, h00, X', hL, e1, e2, ⟨⟨r, h2, hv, hp, hR2, hok⟩, hz, hkeep⟩, st⟩ := hrun T hT X
    obtain ⟨rfl, rfl⟩ := hp
    have hv' : v = some (.int (zi i)) := by cases hv; rfl
    subst hv'
    rw [h00] at hz hkeep
    obtain ⟨t2, a1, b1⟩ := kk T'.heap (locs ++ L) ls (by rw [e1]; exact hR2)
      ⟨Nat.le_trans hS.1 (by rw [e1]; exact hz), fun q h1 h2 => by rw [e1, hkeep q (Nat.lt_of_lt_of_le h1 hS.1) h2]; exact hS.2.1 q h1 h2, fun q hq => by
        rcases List.mem_append.mp hq with h | h
        · exact hS.2.2 q h
        · exact hL q h⟩ hl (zok_cons (v := .inl i) hir (zok_tl (zok_tl hk))) ho T' rfl X'
    exact ⟨t2, st t2 a1, b1⟩
  rcases hK.2.2.1.2.2.2.2.1 with hz | ⟨t, hz⟩
  · exact va_gets hx hb hz hS hown (hts _ m1) (fun _ h9 => h9) hd (go _ rfl)
  · exact va_gets hx hb hz hS hown (hts _ m1) (fun _ h9 => h9) hd (go _ rfl)
end VST2
-- generated below
theorem c_J0_coder (w : zW) (l : Launch) (h : zH) (i : Nat) (hi : i < 16) : zCt w l yJ0_coder_7d493 cJ0_coder_7d493 1 (some .byte) 0 0 [.inr (30, zwS w i)] h (zFn (some (.inl 0)) h) := by
  refine zCt.ofF (own := RJ0) (loc := [some (.inr (30, zwS w i))]) (by decide +kernel) rfl (Nat.le_of_ble_eq_true rfl) (fun k v hk => ?_) ?_
  · exact zloc_ok 0 rfl hk
  intro p e s m args below meth c C Z1 Z2 ZA
  refine v_gstC C dJ0_coder_7d493_0 (zmem 579 (by decide +kernel)) ?_
  refine v_if_eq C dJ0_coder_7d493_3 (tgt := 13) (by decide) (fun c1 => absurd c1 (by decide)) (fun _ => ?_)
  refine v_aload_n C dJ0_coder_7d493_6 rfl ?_
  refine v_scoder C dJ0_coder_7d493_7 (zmem 699 (by decide +kernel)) hi ?_
  refine v_goto C dJ0_coder_7d493_10 (tgt := 14) (by decide) ?_
  exact v_nret C Z1 Z2 (by decide) dJ0_coder_7d493_14 ⟨rfl, rfl⟩
theorem c_J0_isLatin1 (w : zW) (l : Launch) (h : zH) (i : Nat) (hi : i < 16) : zCt w l yJ0_isLatin1_aae02 cJ0_isLatin1_aae02 1 (some .boolean) 0 0 [.inr (30, zwS w i)] h (zFn (some (.inl 1)) h) := by
  refine zCt.ofF (own := RJ0) (loc := [some (.inr (30, zwS w i))]) (by decide +kernel) rfl (Nat.le_of_ble_eq_true rfl) (fun k v hk => ?_) ?_
  · exact zloc_ok 0 rfl hk
  intro p e s m args below meth c C Z1 Z2 ZA
  refine v_gstC C dJ0_isLatin1_aae02_0 (zmem 579 (by decide +kernel)) ?_
  refine v_if_eq C dJ0_isLatin1_aae02_3 (tgt := 17) (by decide) (fun c1 => absurd c1 (by decide)) (fun _ => ?_)
  refine v_aload_n C dJ0_isLatin1_aae02_6 rfl ?_
  refine v_scoder C dJ0_isLatin1_aae02_7 (zmem 699 (by decide +kernel)) hi ?_
  refine v_if_ne C dJ0_isLatin1_aae02_10 (tgt := 17) (by decide) (fun c1 => absurd rfl c1) (fun _ => ?_)
  refine v_iconst C dJ0_isLatin1_aae02_13 rfl ?_
  refine v_goto C dJ0_isLatin1_aae02_14 (tgt := 18) (by decide) ?_
  exact v_zret C Z1 Z2 (Or.inr rfl) dJ0_isLatin1_aae02_18 ⟨rfl, rfl⟩
theorem zsL_shr : ∀ i, i < 16 → zshr ((zsL.getD i 0 : Nat) : Int) 0 = ((zsL.getD i 0 : Nat) : Int) := by decide +kernel
theorem c_J0_length (w : zW) (l : Launch) (h : zH) (i : Nat) (hi : i < 16) : zCt w l yJ0_length_8abf5 cJ0_length_8abf5 1 (some .int) 1 20 [.inr (30, zwS w i)] h (zFn (some (.inl ((zsL.getD i 0 : Nat) : Int))) h) := by
  refine zCt.ofF (own := RJ0) (loc := [some (.inr (30, zwS w i))]) (by decide +kernel) rfl (Nat.le_of_ble_eq_true rfl) (fun k v hk => ?_) ?_
  · exact zloc_ok 0 rfl hk
  intro p e s m args below meth c C Z1 Z2 ZA
  refine v_aload_n C dJ0_length_8abf5_0 rfl ?_
  refine v_sval C dJ0_length_8abf5_1 (zmem 698 (by decide +kernel)) hi ?_
  refine v_blen C dJ0_length_8abf5_4 hi ?_
  refine v_aload_n C dJ0_length_8abf5_5 rfl ?_
  refine v_callTf (As := []) C dJ0_length_8abf5_6 ⟨rfl, (zmem 575 (by decide +kernel)), (zmem 576 (by decide +kernel)), (zmem 577 (by decide +kernel)), (zmem 32 (by decide +kernel)), (zmem 578 (by decide +kernel)), ⟨by decide, by decide⟩, by decide +kernel⟩ hi (c_J0_coder w l h i hi) rfl ⟨by decide, by decide⟩ ⟨Nat.zero_le _, Nat.zero_le _⟩ ⟨rfl, Nat.le_of_ble_eq_true rfl⟩ ?_
  refine v_ishr C dJ0_length_8abf5_9 ?_
  rw [zsL_shr i hi]
  exact v_iret C Z1 Z2 dJ0_length_8abf5_10 ⟨rfl, rfl⟩
theorem c_J0_checkIndex (w : zW) (l : Launch) (h : zH) (i n : Int) (h0 : 0 ≤ i) (h1 : i < n) : zCt w l yJ0_checkIndex_df160 cJ0_checkIndex_df160 2 none 1 22 [.inl i, .inl n] h (zFn none h) := by
  refine zCt.ofF (own := RJ0) (loc := [some (.inl i), some (.inl n)]) (by decide +kernel) rfl (Nat.le_of_ble_eq_true rfl) (fun k v hk => ?_) ?_
  · exact zloc_ok 0 rfl hk
  intro p e s m args below meth c C Z1 Z2 ZA
  refine v_iload_n C dJ0_checkIndex_df160_0 rfl ?_
  refine v_iload_n C dJ0_checkIndex_df160_1 rfl ?_
  refine v_sioobe C dJ0_checkIndex_df160_2 dJ0_checkIndex_df160_5 ⟨(zmem 557 (by decide +kernel)), (zmem 733 (by decide +kernel)), (zmem 734 (by decide +kernel)), (zmem 37 (by decide +kernel)), (zmem 735 (by decide +kernel))⟩ h0 h1 ⟨by decide, by decide⟩ ⟨Nat.zero_le _, Nat.zero_le _⟩ (Nat.zero_le _) ?_
  refine v_pop C dJ0_checkIndex_df160_8 ?_
  exact v_vret C Z1 Z2 dJ0_checkIndex_df160_9 ⟨rfl, rfl⟩
theorem zsB_ok : ∀ i, i < 16 → ∀ k, k < zsL.getD i 0 → zand ((zsB.getD i []).getD k 0).toInt 255 = ((zsB.getD i []).getD k 0).toInt ∧ 0 ≤ ((zsB.getD i []).getD k 0).toInt ∧ ((zsB.getD i []).getD k 0).toInt < 256 ∧ narrow .char (.int (zi ((zsB.getD i []).getD k 0).toInt)) = .int (zi ((zsB.getD i []).getD k 0).toInt) := by decide +kernel
theorem c_J1_charAt (w : zW) (l : Launch) (h : zH) (i : Nat) (x : Int) (hi : i < 16) (h0 : 0 ≤ x) (h1 : x < ((zsL.getD i 0 : Nat) : Int)) : zCt w l yJ1_charAt_3b067 cJ1_charAt_3b067 2 (some .char) 2 43 [.inr (30, zwS w (40 + i)), .inl x] h (zFn (some (.inl ((zsB.getD i []).getD x.toNat 0).toInt)) h) := by
  refine zCt.ofF (own := RJ1) (loc := [some (.inr (30, zwS w (40 + i))), some (.inl x)]) (by decide +kernel) rfl (Nat.le_of_ble_eq_true rfl) (fun k v hk => ?_) ?_
  · exact zloc_ok 0 rfl hk
  intro p e s m args below meth c C Z1 Z2 ZA
  have hz := zsB_ok i hi x.toNat (by omega)
  refine v_iload_n C dJ1_charAt_3b067_0 rfl ?_
  refine v_aload_n C dJ1_charAt_3b067_1 rfl ?_
  refine v_blen C dJ1_charAt_3b067_2 hi ?_
  refine v_callSv (k := 2) (As := [.inl x, .inl ((zsL.getD i 0 : Nat) : Int)]) C dJ1_charAt_3b067_3 ⟨(zmem 778 (by decide +kernel)), (zmem 731 (by decide +kernel)), (zmem 32 (by decide +kernel)), (zmem 732 (by decide +kernel)), ⟨by decide, by decide⟩, by decide +kernel⟩ (c_J0_checkIndex w l h x _ h0 h1) rfl ⟨by decide, by decide⟩ ⟨Nat.zero_le _, Nat.zero_le _⟩ ⟨rfl, Nat.le_of_ble_eq_true rfl⟩ ?_
  refine v_aload_n C dJ1_charAt_3b067_6 rfl ?_
  refine v_iload_n C dJ1_charAt_3b067_7 rfl ?_
  refine v_bald6 C dJ1_charAt_3b067_8 hi h0 h1 ?_
  refine v_sipush C dJ1_charAt_3b067_9 (by decide) rfl ?_
  refine v_iand C dJ1_charAt_3b067_12 ?_
  rw [hz.1]
  refine v_i2c C dJ1_charAt_3b067_13 hz.2.1 hz.2.2.1 ?_
  exact v_nret C Z1 Z2 hz.2.2.2 dJ1_charAt_3b067_14 ⟨rfl, rfl⟩
theorem c_J0_charAt (w : zW) (l : Launch) (h : zH) (i : Nat) (x : Int) (hi : i < 16) (h0 : 0 ≤ x) (h1 : x < ((zsL.getD i 0 : Nat) : Int)) : zCt w l yJ0_charAt_5068e cJ0_charAt_5068e 2 (some .char) 3 64 [.inr (30, zwS w i), .inl x] h (zFn (some (.inl ((zsB.getD i []).getD x.toNat 0).toInt)) h) := by
  refine zCt.ofF (own := RJ0) (loc := [some (.inr (30, zwS w i)), some (.inl x)]) (by decide +kernel) rfl (Nat.le_of_ble_eq_true rfl) (fun k v hk => ?_) ?_
  · exact zloc_ok 0 rfl hk
  intro p e s m args below meth c C Z1 Z2 ZA
  have hz := zsB_ok i hi x.toNat (by omega)
  refine v_aload_n C dJ0_charAt_5068e_0 rfl ?_
  refine v_callTf (As := []) C dJ0_charAt_5068e_1 ⟨rfl, (zmem 771 (by decide +kernel)), (zmem 772 (by decide +kernel)), (zmem 773 (by decide +kernel)), (zmem 32 (by decide +kernel)), (zmem 774 (by decide +kernel)), ⟨by decide, by decide⟩, by decide +kernel⟩ hi (c_J0_isLatin1 w l h i hi) rfl ⟨by decide, by decide⟩ ⟨Nat.zero_le _, Nat.zero_le _⟩ ⟨rfl, Nat.le_of_ble_eq_true rfl⟩ ?_
  refine v_if_eq C dJ0_charAt_5068e_4 (tgt := 16) (by decide) (fun c1 => absurd c1 (by decide)) (fun _ => ?_)
  refine v_aload_n C dJ0_charAt_5068e_7 rfl ?_
  refine v_sval C dJ0_charAt_5068e_8 (zmem 698 (by decide +kernel)) hi ?_
  refine v_iload_n C dJ0_charAt_5068e_11 rfl ?_
  refine v_callSf (k := 2) (As := [.inr (30, zwS w (40 + i)), .inl x]) C dJ0_charAt_5068e_12 ⟨(zmem 775 (by decide +kernel)), (zmem 776 (by decide +kernel)), (zmem 38 (by decide +kernel)), (zmem 777 (by decide +kernel)), ⟨by decide, by decide⟩, by decide +kernel⟩ (c_J1_charAt w l h i x hi h0 h1) rfl ⟨by decide, by decide⟩ ⟨Nat.zero_le _, Nat.zero_le _⟩ ⟨rfl, Nat.le_of_ble_eq_true rfl⟩ ?_
  exact v_nret C Z1 Z2 hz.2.2.2 dJ0_charAt_5068e_15 ⟨rfl, rfl⟩
def q_J0_length (i : Nat) : Option Int := if i < 16 then some ((zsL.getD i 0 : Nat) : Int) else none
def q_J0_charAt (i : Nat) (x : Int) : Option Int := if i < 16 ∧ 0 ≤ x ∧ x < ((zsL.getD i 0 : Nat) : Int) then some ((zsB.getD i []).getD x.toNat 0).toInt else none

theorem q_strlength {α : Type} {w : zW} {p : Program} {l : Launch} {e : Env} {R : Room} {s : State} {m : MethodId} {args : Array Value} {below : List Frame} {meth : Method} {c : Code} {nL : Nat} {f : α → Option zv} {cc : ByteArray} {own : String} {pc : Nat} {loc : List (Option zv)} {stk : List zv} {h : zH} (C : zC w p s m args c nL cc own) {idx i : Nat} {k : Int → Option (α × zH)} (hd : decode cc pc = .ok (.invokevirtual idx, 3)) (hm : Cond.methodLink own idx yJ0_length_8abf5 ∈ zw_T) (hR : 1 + 1 ≤ R.frames ∧ 8 + (1 + 11) + 20 ≤ R.locals) (h8 : stk.length ≤ 8)
    (kk : ∀ v, zQV w p l e R s m args below meth c nL f (k v) (pc + 3) loc (.inl v :: stk) h) : zQV w p l e R s m args below meth c nL f (zbp (q_J0_length i) k) pc loc (.inr (30, zwS w i) :: stk) h := by
  intro r h' z
  unfold q_J0_length at z
  by_cases hi : i < 16
  · rw [if_pos hi] at z
    exact v_callTf (As := []) (k := 0) C hd ⟨rfl, hm, (zmem 572 (by decide +kernel)), (zmem 573 (by decide +kernel)), (zmem 32 (by decide +kernel)), (zmem 574 (by decide +kernel)), ⟨by decide, by decide⟩, by decide +kernel⟩ hi (c_J0_length w l h i hi) rfl hR ⟨Nat.zero_le _, Nat.zero_le _⟩ ⟨rfl, h8⟩ (kk _ r h' z)
  · rw [if_neg hi] at z
    cases z
theorem q_strcharAt {α : Type} {w : zW} {p : Program} {l : Launch} {e : Env} {R : Room} {s : State} {m : MethodId} {args : Array Value} {below : List Frame} {meth : Method} {c : Code} {nL : Nat} {f : α → Option zv} {cc : ByteArray} {own : String} {pc : Nat} {loc : List (Option zv)} {stk : List zv} {h : zH} (C : zC w p s m args c nL cc own) {idx i : Nat} {x : Int} {k : Int → Option (α × zH)} (hd : decode cc pc = .ok (.invokevirtual idx, 3)) (hm : Cond.methodLink own idx yJ0_charAt_5068e ∈ zw_T) (hR : 3 + 1 ≤ R.frames ∧ 8 + (2 + 11) + 64 ≤ R.locals) (h8 : stk.length ≤ 8)
    (kk : ∀ v, zQV w p l e R s m args below meth c nL f (k v) (pc + 3) loc (.inl v :: stk) h) : zQV w p l e R s m args below meth c nL f (zbp (q_J0_charAt i x) k) pc loc (.inl x :: .inr (30, zwS w i) :: stk) h := by
  intro r h' z
  unfold q_J0_charAt at z
  by_cases hi : i < 16 ∧ 0 ≤ x ∧ x < ((zsL.getD i 0 : Nat) : Int)
  · rw [if_pos hi] at z
    exact v_callTf (As := [.inl x]) (k := 1) C hd ⟨rfl, hm, (zmem 768 (by decide +kernel)), (zmem 769 (by decide +kernel)), (zmem 32 (by decide +kernel)), (zmem 770 (by decide +kernel)), ⟨by decide, by decide⟩, by decide +kernel⟩ hi.1 (c_J0_charAt w l h i x hi.1 hi.2.1 hi.2.2) rfl hR ⟨Nat.zero_le _, Nat.zero_le _⟩ ⟨rfl, h8⟩ (kk _ r h' z)
  · rw [if_neg hi] at z
    cases z
theorem p_strlength {α : Type} {w : zW} {p : Program} {l : Launch} {e : Env} {R : Room} {s : State} {m : MethodId} {args : Array Value} {below : List Frame} {meth : Method} {c : Code} {nL : Nat} {f : α → Option zv} {cc : ByteArray} {own : String} {pc : Nat} {loc : List (Option zv)} {stk : List zv} {h : zH} (C : zC w p s m args c nL cc own) {idx i : Nat} {k : Int → Option (α)} (hd : decode cc pc = .ok (.invokevirtual idx, 3)) (hm : Cond.methodLink own idx yJ0_length_8abf5 ∈ zw_T) (hR : 1 + 1 ≤ R.frames ∧ 8 + (1 + 11) + 20 ≤ R.locals) (h8 : stk.length ≤ 8)
    (kk : ∀ v, zQP w p l e R s m args below meth c nL f (k v) (pc + 3) loc (.inl v :: stk) h) : zQP w p l e R s m args below meth c nL f (zbp (q_J0_length i) k) pc loc (.inr (30, zwS w i) :: stk) h := by
  intro r z
  unfold q_J0_length at z
  by_cases hi : i < 16
  · rw [if_pos hi] at z
    exact v_callTf (As := []) (k := 0) C hd ⟨rfl, hm, (zmem 572 (by decide +kernel)), (zmem 573 (by decide +kernel)), (zmem 32 (by decide +kernel)), (zmem 574 (by decide +kernel)), ⟨by decide, by decide⟩, by decide +kernel⟩ hi (c_J0_length w l h i hi) rfl hR ⟨Nat.zero_le _, Nat.zero_le _⟩ ⟨rfl, h8⟩ (kk _ r z)
  · rw [if_neg hi] at z
    cases z
theorem p_strcharAt {α : Type} {w : zW} {p : Program} {l : Launch} {e : Env} {R : Room} {s : State} {m : MethodId} {args : Array Value} {below : List Frame} {meth : Method} {c : Code} {nL : Nat} {f : α → Option zv} {cc : ByteArray} {own : String} {pc : Nat} {loc : List (Option zv)} {stk : List zv} {h : zH} (C : zC w p s m args c nL cc own) {idx i : Nat} {x : Int} {k : Int → Option (α)} (hd : decode cc pc = .ok (.invokevirtual idx, 3)) (hm : Cond.methodLink own idx yJ0_charAt_5068e ∈ zw_T) (hR : 3 + 1 ≤ R.frames ∧ 8 + (2 + 11) + 64 ≤ R.locals) (h8 : stk.length ≤ 8)
    (kk : ∀ v, zQP w p l e R s m args below meth c nL f (k v) (pc + 3) loc (.inl v :: stk) h) : zQP w p l e R s m args below meth c nL f (zbp (q_J0_charAt i x) k) pc loc (.inl x :: .inr (30, zwS w i) :: stk) h := by
  intro r z
  unfold q_J0_charAt at z
  by_cases hi : i < 16 ∧ 0 ≤ x ∧ x < ((zsL.getD i 0 : Nat) : Int)
  · rw [if_pos hi] at z
    exact v_callTf (As := [.inl x]) (k := 1) C hd ⟨rfl, hm, (zmem 768 (by decide +kernel)), (zmem 769 (by decide +kernel)), (zmem 32 (by decide +kernel)), (zmem 770 (by decide +kernel)), ⟨by decide, by decide⟩, by decide +kernel⟩ hi.1 (c_J0_charAt w l h i x hi.1 hi.2.1 hi.2.2) rfl hR ⟨Nat.zero_le _, Nat.zero_le _⟩ ⟨rfl, h8⟩ (kk _ r z)
  · rw [if_neg hi] at z
    cases z
theorem q_aast {α : Type} {w : zW} {p : Program} {l : Launch} {e : Env} {R : Room} {s : State} {m : MethodId} {args : Array Value} {below : List Frame} {meth : Method} {c : Code} {nL : Nat} {f : α → Option zv} {cc : ByteArray} {own : String} {pc : Nat} {loc : List (Option zv)} {stk : List zv} {h : zH} (C : zC w p s m args c nL cc own)
    {k : zH → Option (α × zH)} {d a n d1 v : Nat} {i : Int} (hd : decode cc pc = .ok (.aastore, 1)) (hA : zRA d n d1) (hk9 : d1 < 9) (hcl : ∀ C, zar d = (n, d1 + 1, .object C) → ∃ r, vwCl[d1]? = some r ∧ r.1 = C) (kk : ∀ h1, zQV w p l e R s m args below meth c nL f (k h1) (pc + 1) loc stk h1) : zQV w p l e R s m args below meth c nL f (zgi n i (zlet (zputR h a i.toNat v) k)) pc loc (.inr (d1, v) :: .inl i :: .inr (d, a) :: stk) h :=
  fun r h' z => v_aast C hd hA hk9 hcl (zgi_some z).1.1 (zgi_some z).1.2 (kk _ r h' (zgi_some z).2)
