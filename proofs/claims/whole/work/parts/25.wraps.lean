/-! The law's wrappers: each asks one method and puts its answer into the row out, or answers 1 where the method refused. -/
theorem zL_13 : Cond.classLink RL 13 zw_X ∈ zw_T := zmem 836 (by decide +kernel)
def zXF : String → State → State → Prop := fun _ _ _ => False
def zCtW (w : zW) (l : Launch) (y : MethodName) (b : ByteArray) (n : Nat) (hh : List (Nat × Nat × Nat × Nat)) (fr lo : Nat) (av : List zv) (h : zH) (post : Option zv → zH → Prop) : Prop :=
  (∀ v ∈ av, zok w v) → vx_Met l y (Cond.codeWith y b n (some .int) hh :: zw_T) (zRm1 fr lo) (va_Pc (av.map zval) (zPre w h)) (zQ w post) zXF 1 6 (zA w)
theorem zCtW.of {w : zW} {l : Launch} {y : MethodName} {b : ByteArray} {n : Nat} {hh : List (Nat × Nat × Nat × Nat)} {fr lo : Nat} {av : List zv} {h : zH} {post : Option zv → zH → Prop} {own : String} {loc : List (Option zv)}
    (hy : plainName y.cls = true) (ho : y.cls = own) (hn : av.length ≤ n) (hloc : ∀ (k : Nat) (v : zv), loc[k]? = some (some v) → av[k]? = some v)
    (body : ∀ p e s m args below meth c, zC w p s m args c n b own → meth.sig.returnType = some .int → meth.locks = false → c.exceptionTable.toList = tableOf hh → zV w p l e (zRm1 fr lo) s m args below meth c n 0 0 (vx_MQ below (zQ w post) zXF args s 1 6 (zA w)) 0 loc [] h) : zCtW w l y b n hh fr lo av h post := by
  intro hok
  refine vx_ofWH (cc := b) (maxL := n) (ret := some .int) (hh := hh) hy rfl ?_
  intro p e s m args below meth c s₁ B hml hv
  obtain ⟨rfl, hK, hR⟩ := hv
  have hts := atoms_spec (ws := Cond.codeWith y b n (some .int) hh :: zw_T) B.pre
  have hown : s.vm.findClass own = some m.cls := by rw [← ho]; exact findClass_of_methodNamed B.named
  have C : zC w p s m (av.map zval).toArray c n b own := ⟨B.exec, B.bytes, hml, hown, fun x hx => hts x (List.mem_cons_of_mem _ hx), hK⟩
  have hlen : (lg_sl (av.map zval)).length ≤ n := by rw [lv_args_len]; exact hn
  have hl := lv_entry (av.map zval) (n := n) hlen
  rw [lg_entry_eq]
  generalize (lg_sl (av.map zval) ++ List.replicate (n - (lg_sl (av.map zval)).length) Slot.unset).toArray = ls at hl ⊢
  rw [zlo_args] at hl
  have hav : ∀ (k : Nat) (v : zv), loc[k]? = some (some v) → (av.map some)[k]? = some (some v) := fun k v hk => by rw [List.getElem?_map, hloc k v hk]; rfl
  refine body p e s m _ below meth c C B.returns B.notSynchronized (vx_table (x := y) B (hts _ List.mem_cons_self)) s.heap [] ls hR va_S.rf (zlo_sub hl fun q hq => ?_) (fun v hv => by cases hv) (fun v hv => ?_)
  · obtain ⟨k, v, h1, h2⟩ := zlo_mem.mp hq
    exact zlo_mem.mpr ⟨k, v, hav k v h1, h2⟩
  · obtain ⟨k, hk2⟩ := List.getElem?_of_mem hv
    exact hok v (List.mem_of_getElem? (hloc k v hk2))
theorem zi_toInt64 {x : Int} (hx : zR x) : (zi x).toInt64 = Int64.ofInt x := by
  have h1 : (zi x).toInt64 = Int64.ofInt (zi x).toInt := by
    apply Int64.toInt_inj.mp
    rw [Int32.toInt_toInt64, Int64.toInt_ofInt_of_le]
    · have := (zi x).le_toInt
      omega
    · have := (zi x).toInt_lt
      omega
  rw [h1, zi_toInt hx]
section ZVW
variable {w : zW} {p : Program} {l : Launch} {e : Env} {R : Room} {s : State} {m : MethodId} {args : Array Value} {below : List Frame} {meth : Method} {c : Code} {nL cells slots : Nat} {Q : State → Prop}
variable {cc : ByteArray} {own : String} {pc : Nat} {loc : List (Option zv)} {stk : List zv} {h : zH}
theorem v_wret {post : Option zv → zH → Prop} {XC : String → State → State → Prop} (C : zC w p s m args c nL cc own) {x : Int} (hr : meth.sig.returnType = some .int) (hlk : meth.locks = false) (hc : cells ≤ 1) (hs : slots ≤ 6) (hd : decode cc pc = .ok (.ireturn, 1)) (hp : post (some (.inl x)) h) : zV w p l e R s m args below meth c nL cells slots (vx_MQ below (zQ w post) XC args s 1 6 (zA w)) pc loc [.inl x] h := by
  intro H locs ls hR hS hl hk ho
  exact W.widen hc hs (vx_ret (v_iret (cells := 1) (slots := 6) C hr hlk hd hp H locs ls hR hS hl hk ho))
theorem zE_putL {a k j : Nat} {x : Int} (hka : zwK w a = k + 1) (hc : 9 ≤ k) (h0 : (zar k).2.1 = 0) (h1 : (zar k).2.2 = .long) : ∀ b, zE w (zput h a j x) b = va_up (zE w h) a (.inl (zwA w k, (zar k).1, .inr (.inl (vp_updL (fun i => Int64.ofInt (h.1 a i)) j (Int64.ofInt x))))) b := by
  intro b
  by_cases hb : b = a
  · subst hb
    rw [va_up_self, zE_arr hka hc]
    congr 3
    unfold zcont
    rw [if_pos h0, if_pos h1]
    congr 2
    funext i
    by_cases hij : i = j
    · subst hij
      simp [zput, vp_updL]
    · simp [zput, vp_updL, hij]
  · rw [va_up_ne _ _ hb]
    unfold zE zEk
    have e1 : ∀ k, zslot k (zput h a j x) b = zslot k h b := by
      intro k
      funext i
      unfold zslot zput
      simp [hb]
    have e2 : ∀ k, zcont k (zput h a j x) b = zcont k h b := by
      intro k
      unfold zcont zput
      simp [hb]
    simp only [e1, e2]
/-- the long at the row's one place is written -/
theorem w_last (hx : p.tables.exec = Jvm.exec) (hb : c.code = cc) (hK : zKn w s) {a : Nat} {x : Int} {H : Heap} {locs : List Loc} {ls : Array Slot} {st : List Value} (hxr : zR x) (hka : zwK w a = 22) (hR : zRel w h H) (hS : va_S (zA w) s.heap H locs) (hd : decode cc pc = .ok (.lastore, 1))
    (kk : ∀ H1 locs1, zRel w (zput h a 0 x) H1 → va_S (zA w) s.heap H1 locs1 → W p l e R s m args below meth c H1 locs1 cells slots Q (F0 m (pc + 1) ls st)) : W p l e R s m args below meth c H locs cells slots Q (F0 m pc ls (.long (Int64.ofInt x) :: .int (zi 0) :: .ref a :: st)) := by
  have hka' : zwK w a = 21 + 1 := hka
  obtain ⟨q0, hi⟩ := hR.get hka' (by omega)
  have hi0 := hi
  have ht := ztys_at (w := w) (k := 21) (by omega) (by omega)
  have g3 : zar 21 = (1, 0, .long) := rfl
  have hc0 : zcont 21 h a = .inr (.inl (fun j => Int64.ofInt (h.1 a j))) := rfl
  rw [zE_arr hka' (by omega), hc0, g3] at hi
  rw [g3] at ht
  refine va_last (f := fun j => Int64.ofInt (h.1 a j)) hx hb hK.1 hR.1 hR.2.1 hS q0 (21 - 9) hi ht (zi_in zR_0 (Int.le_refl 0) (by decide)) hd (fun H1 locs1 hP hD hS1 => ?_)
  rw [zi_nat zR_0] at hP hD
  have hE := zE_putL (w := w) (h := h) (j := 0) (x := x) hka' (by omega) rfl rfl
  rw [g3] at hE
  exact kk H1 locs1 (zRel.step (Or.inr ⟨H, hR⟩) (by omega) hi0 hP hD hE hR.2.2.1 (zRg.put hR.2.2.2.1 hxr)) hS1
theorem v_i2last (C : zC w p s m args c nL cc own) {a : Nat} {x : Int} (d0 : decode cc pc = .ok (.i2l, 1)) (d1 : decode cc (pc + 1) = .ok (.lastore, 1))
    (kk : zV w p l e R s m args below meth c nL cells slots Q (pc + 2) loc stk (zput h a 0 x)) : zV w p l e R s m args below meth c nL cells slots Q pc loc (.inl x :: .inl 0 :: .inr (21, a) :: stk) h := by
  intro H locs ls hR hS hl hk ho
  obtain ⟨hx, hb, hml, hown, hts, hK⟩ := C
  have hxr : zR x := zok_hd hk
  have hka : zwK w a = 22 := zok_hd (zok_tl (zok_tl hk))
  exact lv_i2l (v := Int64.ofInt x) hx hb d0 (zi_toInt64 hxr) (w_last hx hb hK hxr hka hR hS d1 fun H1 locs1 h1 h2 => kk H1 locs1 ls h1 h2 hl (zok_tl (zok_tl (zok_tl hk))) ho)
theorem v_l0last (C : zC w p s m args c nL cc own) {a : Nat} (d0 : decode cc pc = .ok (.lconst 0, 1)) (d1 : decode cc (pc + 1) = .ok (.lastore, 1))
    (kk : zV w p l e R s m args below meth c nL cells slots Q (pc + 2) loc stk (zput h a 0 0)) : zV w p l e R s m args below meth c nL cells slots Q pc loc (.inl 0 :: .inr (21, a) :: stk) h := by
  intro H locs ls hR hS hl hk ho
  obtain ⟨hx, hb, hml, hown, hts, hK⟩ := C
  have hka : zwK w a = 22 := zok_hd (zok_tl hk)
  exact lv_lconst (v := Int64.ofInt 0) hx hb d0 (by decide) (w_last hx hb hK zR_0 hka hR hS d1 fun H1 locs1 h1 h2 => kk H1 locs1 ls h1 h2 hl (zok_tl (zok_tl hk)) ho)
theorem v_l1last (C : zC w p s m args c nL cc own) {a tgt : Nat} {off : Int} (d0 : decode cc pc = .ok (.lconst 1, 1)) (d1 : decode cc (pc + 1) = .ok (.goto off, 3)) (ht : ((pc + 1 : Nat) : Int) + off = (tgt : Int)) (d2 : decode cc tgt = .ok (.lastore, 1))
    (kk : zV w p l e R s m args below meth c nL cells slots Q (tgt + 1) loc stk (zput h a 0 1)) : zV w p l e R s m args below meth c nL cells slots Q pc loc (.inl 0 :: .inr (21, a) :: stk) h := by
  intro H locs ls hR hS hl hk ho
  obtain ⟨hx, hb, hml, hown, hts, hK⟩ := C
  have hka : zwK w a = 22 := zok_hd (zok_tl hk)
  exact lv_lconst (v := Int64.ofInt 1) hx hb d0 (by decide) (lv_goto hx hb d1 ht (w_last hx hb hK ⟨by decide, by decide⟩ hka hR hS d2 fun H1 locs1 h1 h2 => kk H1 locs1 ls h1 h2 hl (zok_tl (zok_tl hk)) ho))
/-- the refused call is caught, and the wrapper answers 1 -/
theorem v_xcatch {post : Option zv → zH → Prop} (C : zC w p s m args c nL cc RL) {n1 n2 : Nat} (hT : c.exceptionTable.toList = tableOf [(0, n1, n2, 13)]) (hr : meth.sig.returnType = some .int) (hlk : meth.locks = false) {idx ci a n k fr lo : Nat} {y : MethodName} {b : ByteArray} {ret : Option FieldType} {As rest : List zv} (hd : decode cc pc = .ok (.invokevirtual idx, 3)) (hm : zMV RL idx ci y b n ret k)
    (hc : zCx w l y b n ret fr lo (.inr (ci, a) :: As) h) (hs : stk = As.reverse ++ .inr (ci, a) :: rest) (hR : fr + 1 ≤ R.frames ∧ 8 + (n + 11) + lo ≤ R.locals ∧ 1 ≤ R.cells ∧ 6 ≤ R.slots) (hk8 : As.length = k ∧ rest.length ≤ 8)
    (hcov : pc < n1) {g : Nat} (hst : ∀ (H : Heap) (locs : List Loc) (ls : Array Slot) (q : Nat) (cells slots : Nat) (Q : State → Prop), lv_has ls nL (zlo 0 loc) → (∀ ls' : Array Slot, lv_has ls' nL [] → W p l e R s m args below meth c H locs cells slots Q (F0 m (n2 + g) ls' [])) → W p l e R s m args below meth c H locs cells slots Q (F0 m n2 ls [.ref q]))
    (d1 : decode cc (n2 + g) = .ok (.iconst 1, 1)) (d2 : decode cc (n2 + g + 1) = .ok (.ireturn, 1)) (hp : post (some (.inl 1)) h) : zV w p l e R s m args below meth c nL 0 0 (vx_MQ below (zQ w post) zXF args s 1 6 (zA w)) pc loc stk h := by
  intro H locs ls hR1 hS hl hk ho
  have C0 := C
  obtain ⟨hx, hb, hml, hown, hts, hK⟩ := C
  obtain ⟨m0, ⟨q, m1, m1'⟩, m2, m3, m4, m5, m6, m7, m8⟩ := hm
  have hka : zwK w a = ci + 1 := hk (.inr (ci, a)) (by rw [hs]; exact List.mem_append_right _ List.mem_cons_self)
  obtain ⟨i, hi⟩ := hR1.get hka (by omega)
  rw [zE_obj hka m0] at hi
  have hM := hc (fun v hv => by
    rcases List.mem_cons.mp hv with rfl | hv
    · exact hka
    · exact hk v (by rw [hs]; exact List.mem_append_left _ (List.mem_reverse.mpr hv)))
  have hcall : CallW R s args RL y.cls idx y b n ret (Cond.code y b n ret :: zw_T) (zRm1 fr lo) 1 6 k :=
    ⟨callB_of k hts (zw_good_ws m6) rfl rfl rfl (hts _ m5) (hts _ m2) ⟨m7.1, m7.2, m8⟩ ⟨hR.1, hR.2.1⟩, hts _ m3, hts _ m4⟩
  have hrun := vx_runV (p := p) (l := l) (e := e) (R := R) (below := below) (meth := meth) (H := H) (locs := locs) (cells := 0) (slots := 0) (b := a) (As := As.map zval) (rest := rest.map zval) (g := F0 m pc ls (stk.map zval)) (C := y.cls) ⟨hx, hb, hml, hown, hts⟩ hM hcall
    ⟨zPre_blind, by have := va_recv hK.1 hR1.1 m1 hi; rwa [m1'] at this, fun U hU hW => ⟨rfl, zKn.warm hW hS hU hK, by rw [hU]; exact hR1⟩⟩ rfl (by rw [List.length_map]; exact hk8.1) hl.1 (by
      show stk.map zval = _
      rw [hs, List.map_append, List.map_reverse]
      rfl) (lv_room (by rw [zsum_len]; exact hk8.2)) hd ⟨by simpa using hR.2.2.1, by simpa using hR.2.2.2⟩
  intro T hT0 X
  rcases hrun T hT0 X with ⟨v, st₀, t, T', L, h0, X', hL, e1, e2, hq, st⟩ | ⟨q, st₀, t, T', L, E, ce, h0, X', hL, e1, e2, ⟨hE, hR2, hz, hqq⟩, hce, hcv, hcl, st⟩
  · exact hq.elim
  · subst hE
    rw [h0] at hz hqq
    have hR3 : zRel w h T'.heap := by rw [e1]; exact hR2
    have hS3 : va_S (zA w) s.heap T'.heap (locs ++ L) := ⟨Nat.le_trans hS.1 (by rw [e1]; exact hz), fun q h1 h2 => by rw [e1, hqq q (Nat.lt_of_lt_of_le h1 hS.1) h2]; exact hS.2.1 q h1 h2, fun q hq => by
      rcases List.mem_append.mp hq with h | h
      · exact hS.2.2 q h
      · exact hL q h⟩
    obtain ⟨t2, a1, b1⟩ := vx_catch (own := RL) (name := zw_X) (Q := vx_MQ below (zQ w post) zXF args s 1 6 (zA w)) (pc := pc) (ls := ls) (rest := rest.map zval) (H := T'.heap) (locs := locs ++ L) (cells := 0 + 1) (slots := 0 + 6) (below := below) (p := p) (l := l) (e := e) (R := R) (s := s) (m := m) (args := args) (meth := meth) (c := c) (E := zw_X) (ce := ce) (q := q)
      hown [] { startPc := 0, endPc := n1, handlerPc := n2, catchType := 13 } [] (by rw [hT]; rfl) (fun z hz => nomatch hz) (by simp only [covers, Bool.and_eq_true, decide_eq_true_eq]; omega) (by intro q; cases q) (hts _ zL_13) (va_Nw.use rfl hK.2.1.2.2.2.2) (by rw [e1]; exact hce) hcv hcl
      (hst T'.heap (locs ++ L) ls q _ _ _ hl fun ls' hl' => v_iconst C0 d1 rfl (v_wret C0 hr hlk (by omega) (by omega) d2 hp) T'.heap (locs ++ L) ls' (loc := []) hR3 hS3 hl' (fun v hv => nomatch hv) (fun v hv => nomatch hv)) T' rfl X'
    exact ⟨t2, st.trans a1, b1⟩
end ZVW
theorem w_fade (w : zW) (l : Launch) (h : zH) (a o : Nat) (x1 x2 : Int) (v : Int) (hq : q_X7_fade h a x1 x2 = some v) : zCtW w l yL_fade cL_fade 5 [(0, 10, 13, 13)] 12 260 [.inr (7, a), .inl x1, .inl x2, .inr (21, o)] h (zFn (some (.inl 0)) (zput h o 0 v)) := by
  refine zCtW.of (own := RL) (loc := [some (.inr (7, a)), some (.inl x1), some (.inl x2), some (.inr (21, o)), none]) (by decide) rfl (Nat.le_of_ble_eq_true rfl) (fun k v hk => ?_) ?_
  · exact zloc_ok 1 rfl hk
  intro p e s m args below meth c C Z1 Z2 Z3
  refine v_aload_n C dL_fade_0 rfl ?_
  refine v_iconst C dL_fade_1 rfl ?_
  refine v_aload_n C dL_fade_2 rfl ?_
  refine v_iload_n C dL_fade_3 rfl ?_
  refine v_iload_n C dL_fade_4 rfl ?_
  refine v_callV (k := 2) C dL_fade_5 mvL_7 (cq_X7_fade w l h a x1 x2 v hq) rfl ⟨by decide, by decide⟩ ⟨Nat.zero_le _, Nat.zero_le _⟩ ⟨rfl, Nat.le_of_ble_eq_true rfl⟩ (fun r2 h2 q => ?_)
  rw [q.1, q.2]
  refine v_i2last C dL_fade_8 dL_fade_9 ?_
  refine v_goto C dL_fade_10 (tgt := 17) (by decide) ?_
  refine v_iconst C dL_fade_17 rfl ?_
  exact v_wret C Z1 Z2 (Nat.zero_le _) (Nat.zero_le _) dL_fade_18 ⟨rfl, rfl⟩
theorem wx_fade (w : zW) (l : Launch) (h : zH) (a o : Nat) (x1 x2 : Int) (hc : zCx w l yX7_fade cX7_fade 3 (some .int) 7 121 [.inr (7, a), .inl x1, .inl x2] h) : zCtW w l yL_fade cL_fade 5 [(0, 10, 13, 13)] 12 260 [.inr (7, a), .inl x1, .inl x2, .inr (21, o)] h (zFn (some (.inl 1)) h) := by
  refine zCtW.of (own := RL) (loc := [some (.inr (7, a)), some (.inl x1), some (.inl x2), some (.inr (21, o)), none]) (by decide) rfl (Nat.le_of_ble_eq_true rfl) (fun k v hk => ?_) ?_
  · exact zloc_ok 1 rfl hk
  intro p e s m args below meth c C Z1 Z2 Z3
  refine v_aload_n C dL_fade_0 rfl ?_
  refine v_iconst C dL_fade_1 rfl ?_
  refine v_aload_n C dL_fade_2 rfl ?_
  refine v_iload_n C dL_fade_3 rfl ?_
  refine v_iload_n C dL_fade_4 rfl ?_
  exact v_xcatch (k := 2) (n1 := 10) (n2 := 13) C Z3 Z1 Z2 dL_fade_5 mvL_7 hc rfl ⟨by decide, by decide, by decide, by decide⟩ ⟨rfl, Nat.le_of_ble_eq_true rfl⟩ (by decide) (g := 2) (fun H locs ls q cs sl Q hl kk => lv_astore C.1 C.2.1 dL_fade_13 hl (by decide) rfl fun ls9 hl9 => kk ls9 (zlo_sub hl9 fun _ hq => nomatch hq)) dL_fade_15 dL_fade_16 ⟨rfl, rfl⟩
theorem w_power (w : zW) (l : Launch) (h : zH) (a o : Nat) (x1 : Int) (v : Int) (hq : q_X7_power h a x1 = some v) : zCtW w l yL_power cL_power 4 [(0, 9, 12, 13)] 12 260 [.inr (7, a), .inl x1, .inr (21, o)] h (zFn (some (.inl 0)) (zput h o 0 v)) := by
  refine zCtW.of (own := RL) (loc := [some (.inr (7, a)), some (.inl x1), some (.inr (21, o)), none]) (by decide) rfl (Nat.le_of_ble_eq_true rfl) (fun k v hk => ?_) ?_
  · exact zloc_ok 1 rfl hk
  intro p e s m args below meth c C Z1 Z2 Z3
  refine v_aload_n C dL_power_0 rfl ?_
  refine v_iconst C dL_power_1 rfl ?_
  refine v_aload_n C dL_power_2 rfl ?_
  refine v_iload_n C dL_power_3 rfl ?_
  refine v_callV (k := 1) C dL_power_4 mvL_15 (cq_X7_power w l h a x1 v hq) rfl ⟨by decide, by decide⟩ ⟨Nat.zero_le _, Nat.zero_le _⟩ ⟨rfl, Nat.le_of_ble_eq_true rfl⟩ (fun r2 h2 q => ?_)
  rw [q.1, q.2]
  refine v_i2last C dL_power_7 dL_power_8 ?_
  refine v_goto C dL_power_9 (tgt := 15) (by decide) ?_
  refine v_iconst C dL_power_15 rfl ?_
  exact v_wret C Z1 Z2 (Nat.zero_le _) (Nat.zero_le _) dL_power_16 ⟨rfl, rfl⟩
theorem wx_power (w : zW) (l : Launch) (h : zH) (a o : Nat) (x1 : Int) (hc : zCx w l yX7_power cX7_power 2 (some .int) 7 121 [.inr (7, a), .inl x1] h) : zCtW w l yL_power cL_power 4 [(0, 9, 12, 13)] 12 260 [.inr (7, a), .inl x1, .inr (21, o)] h (zFn (some (.inl 1)) h) := by
  refine zCtW.of (own := RL) (loc := [some (.inr (7, a)), some (.inl x1), some (.inr (21, o)), none]) (by decide) rfl (Nat.le_of_ble_eq_true rfl) (fun k v hk => ?_) ?_
  · exact zloc_ok 1 rfl hk
  intro p e s m args below meth c C Z1 Z2 Z3
  refine v_aload_n C dL_power_0 rfl ?_
  refine v_iconst C dL_power_1 rfl ?_
  refine v_aload_n C dL_power_2 rfl ?_
  refine v_iload_n C dL_power_3 rfl ?_
  exact v_xcatch (k := 1) (n1 := 9) (n2 := 12) C Z3 Z1 Z2 dL_power_4 mvL_15 hc rfl ⟨by decide, by decide, by decide, by decide⟩ ⟨rfl, Nat.le_of_ble_eq_true rfl⟩ (by decide) (g := 1) (fun H locs ls q cs sl Q hl kk => lv_astore_n C.1 C.2.1 dL_power_12 rfl hl (by decide) rfl fun ls9 hl9 => kk ls9 (zlo_sub hl9 fun _ hq => nomatch hq)) dL_power_13 dL_power_14 ⟨rfl, rfl⟩
theorem w_timingError (w : zW) (l : Launch) (h : zH) (a o : Nat) (x1 : Int) (v : Int) (hq : q_X7_timingError h a x1 = some v) : zCtW w l yL_timingError cL_timingError 4 [(0, 9, 12, 13)] 12 260 [.inr (7, a), .inl x1, .inr (21, o)] h (zFn (some (.inl 0)) (zput h o 0 v)) := by
  refine zCtW.of (own := RL) (loc := [some (.inr (7, a)), some (.inl x1), some (.inr (21, o)), none]) (by decide) rfl (Nat.le_of_ble_eq_true rfl) (fun k v hk => ?_) ?_
  · exact zloc_ok 1 rfl hk
  intro p e s m args below meth c C Z1 Z2 Z3
  refine v_aload_n C dL_timingError_0 rfl ?_
  refine v_iconst C dL_timingError_1 rfl ?_
  refine v_aload_n C dL_timingError_2 rfl ?_
  refine v_iload_n C dL_timingError_3 rfl ?_
  refine v_callV (k := 1) C dL_timingError_4 mvL_19 (cq_X7_timingError w l h a x1 v hq) rfl ⟨by decide, by decide⟩ ⟨Nat.zero_le _, Nat.zero_le _⟩ ⟨rfl, Nat.le_of_ble_eq_true rfl⟩ (fun r2 h2 q => ?_)
  rw [q.1, q.2]
  refine v_i2last C dL_timingError_7 dL_timingError_8 ?_
  refine v_goto C dL_timingError_9 (tgt := 15) (by decide) ?_
  refine v_iconst C dL_timingError_15 rfl ?_
  exact v_wret C Z1 Z2 (Nat.zero_le _) (Nat.zero_le _) dL_timingError_16 ⟨rfl, rfl⟩
theorem wx_timingError (w : zW) (l : Launch) (h : zH) (a o : Nat) (x1 : Int) (hc : zCx w l yX7_timingError cX7_timingError 2 (some .int) 7 121 [.inr (7, a), .inl x1] h) : zCtW w l yL_timingError cL_timingError 4 [(0, 9, 12, 13)] 12 260 [.inr (7, a), .inl x1, .inr (21, o)] h (zFn (some (.inl 1)) h) := by
  refine zCtW.of (own := RL) (loc := [some (.inr (7, a)), some (.inl x1), some (.inr (21, o)), none]) (by decide) rfl (Nat.le_of_ble_eq_true rfl) (fun k v hk => ?_) ?_
  · exact zloc_ok 1 rfl hk
  intro p e s m args below meth c C Z1 Z2 Z3
  refine v_aload_n C dL_timingError_0 rfl ?_
  refine v_iconst C dL_timingError_1 rfl ?_
  refine v_aload_n C dL_timingError_2 rfl ?_
  refine v_iload_n C dL_timingError_3 rfl ?_
  exact v_xcatch (k := 1) (n1 := 9) (n2 := 12) C Z3 Z1 Z2 dL_timingError_4 mvL_19 hc rfl ⟨by decide, by decide, by decide, by decide⟩ ⟨rfl, Nat.le_of_ble_eq_true rfl⟩ (by decide) (g := 1) (fun H locs ls q cs sl Q hl kk => lv_astore_n C.1 C.2.1 dL_timingError_12 rfl hl (by decide) rfl fun ls9 hl9 => kk ls9 (zlo_sub hl9 fun _ hq => nomatch hq)) dL_timingError_13 dL_timingError_14 ⟨rfl, rfl⟩
theorem w_roundTrip (w : zW) (l : Launch) (h : zH) (a o : Nat) (x1 : Int) (v : Int) (hq : q_X7_roundTrip h a x1 = some v) : zCtW w l yL_roundTrip cL_roundTrip 4 [(0, 9, 12, 13)] 12 260 [.inr (7, a), .inl x1, .inr (21, o)] h (zFn (some (.inl 0)) (zput h o 0 v)) := by
  refine zCtW.of (own := RL) (loc := [some (.inr (7, a)), some (.inl x1), some (.inr (21, o)), none]) (by decide) rfl (Nat.le_of_ble_eq_true rfl) (fun k v hk => ?_) ?_
  · exact zloc_ok 1 rfl hk
  intro p e s m args below meth c C Z1 Z2 Z3
  refine v_aload_n C dL_roundTrip_0 rfl ?_
  refine v_iconst C dL_roundTrip_1 rfl ?_
  refine v_aload_n C dL_roundTrip_2 rfl ?_
  refine v_iload_n C dL_roundTrip_3 rfl ?_
  refine v_callV (k := 1) C dL_roundTrip_4 mvL_22 (cq_X7_roundTrip w l h a x1 v hq) rfl ⟨by decide, by decide⟩ ⟨Nat.zero_le _, Nat.zero_le _⟩ ⟨rfl, Nat.le_of_ble_eq_true rfl⟩ (fun r2 h2 q => ?_)
  rw [q.1, q.2]
  refine v_i2last C dL_roundTrip_7 dL_roundTrip_8 ?_
  refine v_goto C dL_roundTrip_9 (tgt := 15) (by decide) ?_
  refine v_iconst C dL_roundTrip_15 rfl ?_
  exact v_wret C Z1 Z2 (Nat.zero_le _) (Nat.zero_le _) dL_roundTrip_16 ⟨rfl, rfl⟩
theorem wx_roundTrip (w : zW) (l : Launch) (h : zH) (a o : Nat) (x1 : Int) (hc : zCx w l yX7_roundTrip cX7_roundTrip 2 (some .int) 7 121 [.inr (7, a), .inl x1] h) : zCtW w l yL_roundTrip cL_roundTrip 4 [(0, 9, 12, 13)] 12 260 [.inr (7, a), .inl x1, .inr (21, o)] h (zFn (some (.inl 1)) h) := by
  refine zCtW.of (own := RL) (loc := [some (.inr (7, a)), some (.inl x1), some (.inr (21, o)), none]) (by decide) rfl (Nat.le_of_ble_eq_true rfl) (fun k v hk => ?_) ?_
  · exact zloc_ok 1 rfl hk
  intro p e s m args below meth c C Z1 Z2 Z3
  refine v_aload_n C dL_roundTrip_0 rfl ?_
  refine v_iconst C dL_roundTrip_1 rfl ?_
  refine v_aload_n C dL_roundTrip_2 rfl ?_
  refine v_iload_n C dL_roundTrip_3 rfl ?_
  exact v_xcatch (k := 1) (n1 := 9) (n2 := 12) C Z3 Z1 Z2 dL_roundTrip_4 mvL_22 hc rfl ⟨by decide, by decide, by decide, by decide⟩ ⟨rfl, Nat.le_of_ble_eq_true rfl⟩ (by decide) (g := 1) (fun H locs ls q cs sl Q hl kk => lv_astore_n C.1 C.2.1 dL_roundTrip_12 rfl hl (by decide) rfl fun ls9 hl9 => kk ls9 (zlo_sub hl9 fun _ hq => nomatch hq)) dL_roundTrip_13 dL_roundTrip_14 ⟨rfl, rfl⟩
theorem w_timingFaults (w : zW) (l : Launch) (h : zH) (a o : Nat) (x1 : Int) (v : Int) (hq : q_X7_timingFaults h a x1 = some v) : zCtW w l yL_timingFaults cL_timingFaults 4 [(0, 9, 12, 13)] 12 260 [.inr (7, a), .inl x1, .inr (21, o)] h (zFn (some (.inl 0)) (zput h o 0 v)) := by
  refine zCtW.of (own := RL) (loc := [some (.inr (7, a)), some (.inl x1), some (.inr (21, o)), none]) (by decide) rfl (Nat.le_of_ble_eq_true rfl) (fun k v hk => ?_) ?_
  · exact zloc_ok 1 rfl hk
  intro p e s m args below meth c C Z1 Z2 Z3
  refine v_aload_n C dL_timingFaults_0 rfl ?_
  refine v_iconst C dL_timingFaults_1 rfl ?_
  refine v_aload_n C dL_timingFaults_2 rfl ?_
  refine v_iload_n C dL_timingFaults_3 rfl ?_
  refine v_callV (k := 1) C dL_timingFaults_4 mvL_25 (cq_X7_timingFaults w l h a x1 v hq) rfl ⟨by decide, by decide⟩ ⟨Nat.zero_le _, Nat.zero_le _⟩ ⟨rfl, Nat.le_of_ble_eq_true rfl⟩ (fun r2 h2 q => ?_)
  rw [q.1, q.2]
  refine v_i2last C dL_timingFaults_7 dL_timingFaults_8 ?_
  refine v_goto C dL_timingFaults_9 (tgt := 15) (by decide) ?_
  refine v_iconst C dL_timingFaults_15 rfl ?_
  exact v_wret C Z1 Z2 (Nat.zero_le _) (Nat.zero_le _) dL_timingFaults_16 ⟨rfl, rfl⟩
theorem wx_timingFaults (w : zW) (l : Launch) (h : zH) (a o : Nat) (x1 : Int) (hc : zCx w l yX7_timingFaults cX7_timingFaults 2 (some .int) 7 121 [.inr (7, a), .inl x1] h) : zCtW w l yL_timingFaults cL_timingFaults 4 [(0, 9, 12, 13)] 12 260 [.inr (7, a), .inl x1, .inr (21, o)] h (zFn (some (.inl 1)) h) := by
  refine zCtW.of (own := RL) (loc := [some (.inr (7, a)), some (.inl x1), some (.inr (21, o)), none]) (by decide) rfl (Nat.le_of_ble_eq_true rfl) (fun k v hk => ?_) ?_
  · exact zloc_ok 1 rfl hk
  intro p e s m args below meth c C Z1 Z2 Z3
  refine v_aload_n C dL_timingFaults_0 rfl ?_
  refine v_iconst C dL_timingFaults_1 rfl ?_
  refine v_aload_n C dL_timingFaults_2 rfl ?_
  refine v_iload_n C dL_timingFaults_3 rfl ?_
  exact v_xcatch (k := 1) (n1 := 9) (n2 := 12) C Z3 Z1 Z2 dL_timingFaults_4 mvL_25 hc rfl ⟨by decide, by decide, by decide, by decide⟩ ⟨rfl, Nat.le_of_ble_eq_true rfl⟩ (by decide) (g := 1) (fun H locs ls q cs sl Q hl kk => lv_astore_n C.1 C.2.1 dL_timingFaults_12 rfl hl (by decide) rfl fun ls9 hl9 => kk ls9 (zlo_sub hl9 fun _ hq => nomatch hq)) dL_timingFaults_13 dL_timingFaults_14 ⟨rfl, rfl⟩
theorem w_stateOf (w : zW) (l : Launch) (h : zH) (a o : Nat) (x1 : Int) (v : Int) (hq : q_X7_stateOf h a x1 = some v) : zCtW w l yL_stateOf cL_stateOf 4 [(0, 9, 12, 13)] 12 260 [.inr (7, a), .inl x1, .inr (21, o)] h (zFn (some (.inl 0)) (zput h o 0 v)) := by
  refine zCtW.of (own := RL) (loc := [some (.inr (7, a)), some (.inl x1), some (.inr (21, o)), none]) (by decide) rfl (Nat.le_of_ble_eq_true rfl) (fun k v hk => ?_) ?_
  · exact zloc_ok 1 rfl hk
  intro p e s m args below meth c C Z1 Z2 Z3
  refine v_aload_n C dL_stateOf_0 rfl ?_
  refine v_iconst C dL_stateOf_1 rfl ?_
  refine v_aload_n C dL_stateOf_2 rfl ?_
  refine v_iload_n C dL_stateOf_3 rfl ?_
  refine v_callV (k := 1) C dL_stateOf_4 mvL_28 (cq_X7_stateOf w l h a x1 v hq) rfl ⟨by decide, by decide⟩ ⟨Nat.zero_le _, Nat.zero_le _⟩ ⟨rfl, Nat.le_of_ble_eq_true rfl⟩ (fun r2 h2 q => ?_)
  rw [q.1, q.2]
  refine v_i2last C dL_stateOf_7 dL_stateOf_8 ?_
  refine v_goto C dL_stateOf_9 (tgt := 15) (by decide) ?_
  refine v_iconst C dL_stateOf_15 rfl ?_
  exact v_wret C Z1 Z2 (Nat.zero_le _) (Nat.zero_le _) dL_stateOf_16 ⟨rfl, rfl⟩
theorem wx_stateOf (w : zW) (l : Launch) (h : zH) (a o : Nat) (x1 : Int) (hc : zCx w l yX7_stateOf cX7_stateOf 2 (some .int) 7 121 [.inr (7, a), .inl x1] h) : zCtW w l yL_stateOf cL_stateOf 4 [(0, 9, 12, 13)] 12 260 [.inr (7, a), .inl x1, .inr (21, o)] h (zFn (some (.inl 1)) h) := by
  refine zCtW.of (own := RL) (loc := [some (.inr (7, a)), some (.inl x1), some (.inr (21, o)), none]) (by decide) rfl (Nat.le_of_ble_eq_true rfl) (fun k v hk => ?_) ?_
  · exact zloc_ok 1 rfl hk
  intro p e s m args below meth c C Z1 Z2 Z3
  refine v_aload_n C dL_stateOf_0 rfl ?_
  refine v_iconst C dL_stateOf_1 rfl ?_
  refine v_aload_n C dL_stateOf_2 rfl ?_
  refine v_iload_n C dL_stateOf_3 rfl ?_
  exact v_xcatch (k := 1) (n1 := 9) (n2 := 12) C Z3 Z1 Z2 dL_stateOf_4 mvL_28 hc rfl ⟨by decide, by decide, by decide, by decide⟩ ⟨rfl, Nat.le_of_ble_eq_true rfl⟩ (by decide) (g := 1) (fun H locs ls q cs sl Q hl kk => lv_astore_n C.1 C.2.1 dL_stateOf_12 rfl hl (by decide) rfl fun ls9 hl9 => kk ls9 (zlo_sub hl9 fun _ hq => nomatch hq)) dL_stateOf_13 dL_stateOf_14 ⟨rfl, rfl⟩
theorem w_senderOf (w : zW) (l : Launch) (h : zH) (a o : Nat) (x1 : Int) (v : Int) (hq : q_X7_senderOf h a x1 = some v) : zCtW w l yL_senderOf cL_senderOf 4 [(0, 9, 12, 13)] 12 260 [.inr (7, a), .inl x1, .inr (21, o)] h (zFn (some (.inl 0)) (zput h o 0 v)) := by
  refine zCtW.of (own := RL) (loc := [some (.inr (7, a)), some (.inl x1), some (.inr (21, o)), none]) (by decide) rfl (Nat.le_of_ble_eq_true rfl) (fun k v hk => ?_) ?_
  · exact zloc_ok 1 rfl hk
  intro p e s m args below meth c C Z1 Z2 Z3
  refine v_aload_n C dL_senderOf_0 rfl ?_
  refine v_iconst C dL_senderOf_1 rfl ?_
  refine v_aload_n C dL_senderOf_2 rfl ?_
  refine v_iload_n C dL_senderOf_3 rfl ?_
  refine v_callV (k := 1) C dL_senderOf_4 mvL_31 (cq_X7_senderOf w l h a x1 v hq) rfl ⟨by decide, by decide⟩ ⟨Nat.zero_le _, Nat.zero_le _⟩ ⟨rfl, Nat.le_of_ble_eq_true rfl⟩ (fun r2 h2 q => ?_)
  rw [q.1, q.2]
  refine v_i2last C dL_senderOf_7 dL_senderOf_8 ?_
  refine v_goto C dL_senderOf_9 (tgt := 15) (by decide) ?_
  refine v_iconst C dL_senderOf_15 rfl ?_
  exact v_wret C Z1 Z2 (Nat.zero_le _) (Nat.zero_le _) dL_senderOf_16 ⟨rfl, rfl⟩
theorem wx_senderOf (w : zW) (l : Launch) (h : zH) (a o : Nat) (x1 : Int) (hc : zCx w l yX7_senderOf cX7_senderOf 2 (some .int) 7 121 [.inr (7, a), .inl x1] h) : zCtW w l yL_senderOf cL_senderOf 4 [(0, 9, 12, 13)] 12 260 [.inr (7, a), .inl x1, .inr (21, o)] h (zFn (some (.inl 1)) h) := by
  refine zCtW.of (own := RL) (loc := [some (.inr (7, a)), some (.inl x1), some (.inr (21, o)), none]) (by decide) rfl (Nat.le_of_ble_eq_true rfl) (fun k v hk => ?_) ?_
  · exact zloc_ok 1 rfl hk
  intro p e s m args below meth c C Z1 Z2 Z3
  refine v_aload_n C dL_senderOf_0 rfl ?_
  refine v_iconst C dL_senderOf_1 rfl ?_
  refine v_aload_n C dL_senderOf_2 rfl ?_
  refine v_iload_n C dL_senderOf_3 rfl ?_
  exact v_xcatch (k := 1) (n1 := 9) (n2 := 12) C Z3 Z1 Z2 dL_senderOf_4 mvL_31 hc rfl ⟨by decide, by decide, by decide, by decide⟩ ⟨rfl, Nat.le_of_ble_eq_true rfl⟩ (by decide) (g := 1) (fun H locs ls q cs sl Q hl kk => lv_astore_n C.1 C.2.1 dL_senderOf_12 rfl hl (by decide) rfl fun ls9 hl9 => kk ls9 (zlo_sub hl9 fun _ hq => nomatch hq)) dL_senderOf_13 dL_senderOf_14 ⟨rfl, rfl⟩
theorem w_receiverOf (w : zW) (l : Launch) (h : zH) (a o : Nat) (x1 : Int) (v : Int) (hq : q_X7_receiverOf h a x1 = some v) : zCtW w l yL_receiverOf cL_receiverOf 4 [(0, 9, 12, 13)] 12 260 [.inr (7, a), .inl x1, .inr (21, o)] h (zFn (some (.inl 0)) (zput h o 0 v)) := by
  refine zCtW.of (own := RL) (loc := [some (.inr (7, a)), some (.inl x1), some (.inr (21, o)), none]) (by decide) rfl (Nat.le_of_ble_eq_true rfl) (fun k v hk => ?_) ?_
  · exact zloc_ok 1 rfl hk
  intro p e s m args below meth c C Z1 Z2 Z3
  refine v_aload_n C dL_receiverOf_0 rfl ?_
  refine v_iconst C dL_receiverOf_1 rfl ?_
  refine v_aload_n C dL_receiverOf_2 rfl ?_
  refine v_iload_n C dL_receiverOf_3 rfl ?_
  refine v_callV (k := 1) C dL_receiverOf_4 mvL_34 (cq_X7_receiverOf w l h a x1 v hq) rfl ⟨by decide, by decide⟩ ⟨Nat.zero_le _, Nat.zero_le _⟩ ⟨rfl, Nat.le_of_ble_eq_true rfl⟩ (fun r2 h2 q => ?_)
  rw [q.1, q.2]
  refine v_i2last C dL_receiverOf_7 dL_receiverOf_8 ?_
  refine v_goto C dL_receiverOf_9 (tgt := 15) (by decide) ?_
  refine v_iconst C dL_receiverOf_15 rfl ?_
  exact v_wret C Z1 Z2 (Nat.zero_le _) (Nat.zero_le _) dL_receiverOf_16 ⟨rfl, rfl⟩
theorem wx_receiverOf (w : zW) (l : Launch) (h : zH) (a o : Nat) (x1 : Int) (hc : zCx w l yX7_receiverOf cX7_receiverOf 2 (some .int) 7 121 [.inr (7, a), .inl x1] h) : zCtW w l yL_receiverOf cL_receiverOf 4 [(0, 9, 12, 13)] 12 260 [.inr (7, a), .inl x1, .inr (21, o)] h (zFn (some (.inl 1)) h) := by
  refine zCtW.of (own := RL) (loc := [some (.inr (7, a)), some (.inl x1), some (.inr (21, o)), none]) (by decide) rfl (Nat.le_of_ble_eq_true rfl) (fun k v hk => ?_) ?_
  · exact zloc_ok 1 rfl hk
  intro p e s m args below meth c C Z1 Z2 Z3
  refine v_aload_n C dL_receiverOf_0 rfl ?_
  refine v_iconst C dL_receiverOf_1 rfl ?_
  refine v_aload_n C dL_receiverOf_2 rfl ?_
  refine v_iload_n C dL_receiverOf_3 rfl ?_
  exact v_xcatch (k := 1) (n1 := 9) (n2 := 12) C Z3 Z1 Z2 dL_receiverOf_4 mvL_34 hc rfl ⟨by decide, by decide, by decide, by decide⟩ ⟨rfl, Nat.le_of_ble_eq_true rfl⟩ (by decide) (g := 1) (fun H locs ls q cs sl Q hl kk => lv_astore_n C.1 C.2.1 dL_receiverOf_12 rfl hl (by decide) rfl fun ls9 hl9 => kk ls9 (zlo_sub hl9 fun _ hq => nomatch hq)) dL_receiverOf_13 dL_receiverOf_14 ⟨rfl, rfl⟩
theorem w_carrierOf (w : zW) (l : Launch) (h : zH) (a o : Nat) (x1 : Int) (v : Int) (hq : q_X7_carrierOf h a x1 = some v) : zCtW w l yL_carrierOf cL_carrierOf 4 [(0, 9, 12, 13)] 12 260 [.inr (7, a), .inl x1, .inr (21, o)] h (zFn (some (.inl 0)) (zput h o 0 v)) := by
  refine zCtW.of (own := RL) (loc := [some (.inr (7, a)), some (.inl x1), some (.inr (21, o)), none]) (by decide) rfl (Nat.le_of_ble_eq_true rfl) (fun k v hk => ?_) ?_
  · exact zloc_ok 1 rfl hk
  intro p e s m args below meth c C Z1 Z2 Z3
  refine v_aload_n C dL_carrierOf_0 rfl ?_
  refine v_iconst C dL_carrierOf_1 rfl ?_
  refine v_aload_n C dL_carrierOf_2 rfl ?_
  refine v_iload_n C dL_carrierOf_3 rfl ?_
  refine v_callV (k := 1) C dL_carrierOf_4 mvL_37 (cq_X7_carrierOf w l h a x1 v hq) rfl ⟨by decide, by decide⟩ ⟨Nat.zero_le _, Nat.zero_le _⟩ ⟨rfl, Nat.le_of_ble_eq_true rfl⟩ (fun r2 h2 q => ?_)
  rw [q.1, q.2]
  refine v_i2last C dL_carrierOf_7 dL_carrierOf_8 ?_
  refine v_goto C dL_carrierOf_9 (tgt := 15) (by decide) ?_
  refine v_iconst C dL_carrierOf_15 rfl ?_
  exact v_wret C Z1 Z2 (Nat.zero_le _) (Nat.zero_le _) dL_carrierOf_16 ⟨rfl, rfl⟩
theorem wx_carrierOf (w : zW) (l : Launch) (h : zH) (a o : Nat) (x1 : Int) (hc : zCx w l yX7_carrierOf cX7_carrierOf 3 (some .int) 7 121 [.inr (7, a), .inl x1] h) : zCtW w l yL_carrierOf cL_carrierOf 4 [(0, 9, 12, 13)] 12 260 [.inr (7, a), .inl x1, .inr (21, o)] h (zFn (some (.inl 1)) h) := by
  refine zCtW.of (own := RL) (loc := [some (.inr (7, a)), some (.inl x1), some (.inr (21, o)), none]) (by decide) rfl (Nat.le_of_ble_eq_true rfl) (fun k v hk => ?_) ?_
  · exact zloc_ok 1 rfl hk
  intro p e s m args below meth c C Z1 Z2 Z3
  refine v_aload_n C dL_carrierOf_0 rfl ?_
  refine v_iconst C dL_carrierOf_1 rfl ?_
  refine v_aload_n C dL_carrierOf_2 rfl ?_
  refine v_iload_n C dL_carrierOf_3 rfl ?_
  exact v_xcatch (k := 1) (n1 := 9) (n2 := 12) C Z3 Z1 Z2 dL_carrierOf_4 mvL_37 hc rfl ⟨by decide, by decide, by decide, by decide⟩ ⟨rfl, Nat.le_of_ble_eq_true rfl⟩ (by decide) (g := 1) (fun H locs ls q cs sl Q hl kk => lv_astore_n C.1 C.2.1 dL_carrierOf_12 rfl hl (by decide) rfl fun ls9 hl9 => kk ls9 (zlo_sub hl9 fun _ hq => nomatch hq)) dL_carrierOf_13 dL_carrierOf_14 ⟨rfl, rfl⟩
theorem w_startOf (w : zW) (l : Launch) (h : zH) (a o : Nat) (x1 : Int) (v : Int) (hq : q_X7_startOf h a x1 = some v) : zCtW w l yL_startOf cL_startOf 4 [(0, 9, 12, 13)] 12 260 [.inr (7, a), .inl x1, .inr (21, o)] h (zFn (some (.inl 0)) (zput h o 0 v)) := by
  refine zCtW.of (own := RL) (loc := [some (.inr (7, a)), some (.inl x1), some (.inr (21, o)), none]) (by decide) rfl (Nat.le_of_ble_eq_true rfl) (fun k v hk => ?_) ?_
  · exact zloc_ok 1 rfl hk
  intro p e s m args below meth c C Z1 Z2 Z3
  refine v_aload_n C dL_startOf_0 rfl ?_
  refine v_iconst C dL_startOf_1 rfl ?_
  refine v_aload_n C dL_startOf_2 rfl ?_
  refine v_iload_n C dL_startOf_3 rfl ?_
  refine v_callV (k := 1) C dL_startOf_4 mvL_40 (cq_X7_startOf w l h a x1 v hq) rfl ⟨by decide, by decide⟩ ⟨Nat.zero_le _, Nat.zero_le _⟩ ⟨rfl, Nat.le_of_ble_eq_true rfl⟩ (fun r2 h2 q => ?_)
  rw [q.1, q.2]
  refine v_i2last C dL_startOf_7 dL_startOf_8 ?_
  refine v_goto C dL_startOf_9 (tgt := 15) (by decide) ?_
  refine v_iconst C dL_startOf_15 rfl ?_
  exact v_wret C Z1 Z2 (Nat.zero_le _) (Nat.zero_le _) dL_startOf_16 ⟨rfl, rfl⟩
theorem wx_startOf (w : zW) (l : Launch) (h : zH) (a o : Nat) (x1 : Int) (hc : zCx w l yX7_startOf cX7_startOf 3 (some .int) 7 121 [.inr (7, a), .inl x1] h) : zCtW w l yL_startOf cL_startOf 4 [(0, 9, 12, 13)] 12 260 [.inr (7, a), .inl x1, .inr (21, o)] h (zFn (some (.inl 1)) h) := by
  refine zCtW.of (own := RL) (loc := [some (.inr (7, a)), some (.inl x1), some (.inr (21, o)), none]) (by decide) rfl (Nat.le_of_ble_eq_true rfl) (fun k v hk => ?_) ?_
  · exact zloc_ok 1 rfl hk
  intro p e s m args below meth c C Z1 Z2 Z3
  refine v_aload_n C dL_startOf_0 rfl ?_
  refine v_iconst C dL_startOf_1 rfl ?_
  refine v_aload_n C dL_startOf_2 rfl ?_
  refine v_iload_n C dL_startOf_3 rfl ?_
  exact v_xcatch (k := 1) (n1 := 9) (n2 := 12) C Z3 Z1 Z2 dL_startOf_4 mvL_40 hc rfl ⟨by decide, by decide, by decide, by decide⟩ ⟨rfl, Nat.le_of_ble_eq_true rfl⟩ (by decide) (g := 1) (fun H locs ls q cs sl Q hl kk => lv_astore_n C.1 C.2.1 dL_startOf_12 rfl hl (by decide) rfl fun ls9 hl9 => kk ls9 (zlo_sub hl9 fun _ hq => nomatch hq)) dL_startOf_13 dL_startOf_14 ⟨rfl, rfl⟩
theorem w_burstOf (w : zW) (l : Launch) (h : zH) (a o : Nat) (x1 : Int) (v : Int) (hq : q_X7_burstOf h a x1 = some v) : zCtW w l yL_burstOf cL_burstOf 4 [(0, 9, 12, 13)] 12 260 [.inr (7, a), .inl x1, .inr (21, o)] h (zFn (some (.inl 0)) (zput h o 0 v)) := by
  refine zCtW.of (own := RL) (loc := [some (.inr (7, a)), some (.inl x1), some (.inr (21, o)), none]) (by decide) rfl (Nat.le_of_ble_eq_true rfl) (fun k v hk => ?_) ?_
  · exact zloc_ok 1 rfl hk
  intro p e s m args below meth c C Z1 Z2 Z3
  refine v_aload_n C dL_burstOf_0 rfl ?_
  refine v_iconst C dL_burstOf_1 rfl ?_
  refine v_aload_n C dL_burstOf_2 rfl ?_
  refine v_iload_n C dL_burstOf_3 rfl ?_
  refine v_callV (k := 1) C dL_burstOf_4 mvL_43 (cq_X7_burstOf w l h a x1 v hq) rfl ⟨by decide, by decide⟩ ⟨Nat.zero_le _, Nat.zero_le _⟩ ⟨rfl, Nat.le_of_ble_eq_true rfl⟩ (fun r2 h2 q => ?_)
  rw [q.1, q.2]
  refine v_i2last C dL_burstOf_7 dL_burstOf_8 ?_
  refine v_goto C dL_burstOf_9 (tgt := 15) (by decide) ?_
  refine v_iconst C dL_burstOf_15 rfl ?_
  exact v_wret C Z1 Z2 (Nat.zero_le _) (Nat.zero_le _) dL_burstOf_16 ⟨rfl, rfl⟩
theorem wx_burstOf (w : zW) (l : Launch) (h : zH) (a o : Nat) (x1 : Int) (hc : zCx w l yX7_burstOf cX7_burstOf 2 (some .int) 7 121 [.inr (7, a), .inl x1] h) : zCtW w l yL_burstOf cL_burstOf 4 [(0, 9, 12, 13)] 12 260 [.inr (7, a), .inl x1, .inr (21, o)] h (zFn (some (.inl 1)) h) := by
  refine zCtW.of (own := RL) (loc := [some (.inr (7, a)), some (.inl x1), some (.inr (21, o)), none]) (by decide) rfl (Nat.le_of_ble_eq_true rfl) (fun k v hk => ?_) ?_
  · exact zloc_ok 1 rfl hk
  intro p e s m args below meth c C Z1 Z2 Z3
  refine v_aload_n C dL_burstOf_0 rfl ?_
  refine v_iconst C dL_burstOf_1 rfl ?_
  refine v_aload_n C dL_burstOf_2 rfl ?_
  refine v_iload_n C dL_burstOf_3 rfl ?_
  exact v_xcatch (k := 1) (n1 := 9) (n2 := 12) C Z3 Z1 Z2 dL_burstOf_4 mvL_43 hc rfl ⟨by decide, by decide, by decide, by decide⟩ ⟨rfl, Nat.le_of_ble_eq_true rfl⟩ (by decide) (g := 1) (fun H locs ls q cs sl Q hl kk => lv_astore_n C.1 C.2.1 dL_burstOf_12 rfl hl (by decide) rfl fun ls9 hl9 => kk ls9 (zlo_sub hl9 fun _ hq => nomatch hq)) dL_burstOf_13 dL_burstOf_14 ⟨rfl, rfl⟩
theorem w_sendOffset (w : zW) (l : Launch) (h : zH) (a o : Nat) (x1 : Int) (v : Int) (hq : q_X7_sendOffset h a x1 = some v) : zCtW w l yL_sendOffset cL_sendOffset 4 [(0, 9, 12, 13)] 12 260 [.inr (7, a), .inl x1, .inr (21, o)] h (zFn (some (.inl 0)) (zput h o 0 v)) := by
  refine zCtW.of (own := RL) (loc := [some (.inr (7, a)), some (.inl x1), some (.inr (21, o)), none]) (by decide) rfl (Nat.le_of_ble_eq_true rfl) (fun k v hk => ?_) ?_
  · exact zloc_ok 1 rfl hk
  intro p e s m args below meth c C Z1 Z2 Z3
  refine v_aload_n C dL_sendOffset_0 rfl ?_
  refine v_iconst C dL_sendOffset_1 rfl ?_
  refine v_aload_n C dL_sendOffset_2 rfl ?_
  refine v_iload_n C dL_sendOffset_3 rfl ?_
  refine v_callV (k := 1) C dL_sendOffset_4 mvL_46 (cq_X7_sendOffset w l h a x1 v hq) rfl ⟨by decide, by decide⟩ ⟨Nat.zero_le _, Nat.zero_le _⟩ ⟨rfl, Nat.le_of_ble_eq_true rfl⟩ (fun r2 h2 q => ?_)
  rw [q.1, q.2]
  refine v_i2last C dL_sendOffset_7 dL_sendOffset_8 ?_
  refine v_goto C dL_sendOffset_9 (tgt := 15) (by decide) ?_
  refine v_iconst C dL_sendOffset_15 rfl ?_
  exact v_wret C Z1 Z2 (Nat.zero_le _) (Nat.zero_le _) dL_sendOffset_16 ⟨rfl, rfl⟩
theorem wx_sendOffset (w : zW) (l : Launch) (h : zH) (a o : Nat) (x1 : Int) (hc : zCx w l yX7_sendOffset cX7_sendOffset 4 (some .int) 7 121 [.inr (7, a), .inl x1] h) : zCtW w l yL_sendOffset cL_sendOffset 4 [(0, 9, 12, 13)] 12 260 [.inr (7, a), .inl x1, .inr (21, o)] h (zFn (some (.inl 1)) h) := by
  refine zCtW.of (own := RL) (loc := [some (.inr (7, a)), some (.inl x1), some (.inr (21, o)), none]) (by decide) rfl (Nat.le_of_ble_eq_true rfl) (fun k v hk => ?_) ?_
  · exact zloc_ok 1 rfl hk
  intro p e s m args below meth c C Z1 Z2 Z3
  refine v_aload_n C dL_sendOffset_0 rfl ?_
  refine v_iconst C dL_sendOffset_1 rfl ?_
  refine v_aload_n C dL_sendOffset_2 rfl ?_
  refine v_iload_n C dL_sendOffset_3 rfl ?_
  exact v_xcatch (k := 1) (n1 := 9) (n2 := 12) C Z3 Z1 Z2 dL_sendOffset_4 mvL_46 hc rfl ⟨by decide, by decide, by decide, by decide⟩ ⟨rfl, Nat.le_of_ble_eq_true rfl⟩ (by decide) (g := 1) (fun H locs ls q cs sl Q hl kk => lv_astore_n C.1 C.2.1 dL_sendOffset_12 rfl hl (by decide) rfl fun ls9 hl9 => kk ls9 (zlo_sub hl9 fun _ hq => nomatch hq)) dL_sendOffset_13 dL_sendOffset_14 ⟨rfl, rfl⟩
theorem w_endOf (w : zW) (l : Launch) (h : zH) (a o : Nat) (x1 : Int) (v : Int) (hq : q_X7_endOf h a x1 = some v) : zCtW w l yL_endOf cL_endOf 4 [(0, 9, 12, 13)] 12 260 [.inr (7, a), .inl x1, .inr (21, o)] h (zFn (some (.inl 0)) (zput h o 0 v)) := by
  refine zCtW.of (own := RL) (loc := [some (.inr (7, a)), some (.inl x1), some (.inr (21, o)), none]) (by decide) rfl (Nat.le_of_ble_eq_true rfl) (fun k v hk => ?_) ?_
  · exact zloc_ok 1 rfl hk
  intro p e s m args below meth c C Z1 Z2 Z3
  refine v_aload_n C dL_endOf_0 rfl ?_
  refine v_iconst C dL_endOf_1 rfl ?_
  refine v_aload_n C dL_endOf_2 rfl ?_
  refine v_iload_n C dL_endOf_3 rfl ?_
  refine v_callV (k := 1) C dL_endOf_4 mvL_49 (cq_X7_endOf w l h a x1 v hq) rfl ⟨by decide, by decide⟩ ⟨Nat.zero_le _, Nat.zero_le _⟩ ⟨rfl, Nat.le_of_ble_eq_true rfl⟩ (fun r2 h2 q => ?_)
  rw [q.1, q.2]
  refine v_i2last C dL_endOf_7 dL_endOf_8 ?_
  refine v_goto C dL_endOf_9 (tgt := 15) (by decide) ?_
  refine v_iconst C dL_endOf_15 rfl ?_
  exact v_wret C Z1 Z2 (Nat.zero_le _) (Nat.zero_le _) dL_endOf_16 ⟨rfl, rfl⟩
theorem wx_endOf (w : zW) (l : Launch) (h : zH) (a o : Nat) (x1 : Int) (hc : zCx w l yX7_endOf cX7_endOf 3 (some .int) 7 121 [.inr (7, a), .inl x1] h) : zCtW w l yL_endOf cL_endOf 4 [(0, 9, 12, 13)] 12 260 [.inr (7, a), .inl x1, .inr (21, o)] h (zFn (some (.inl 1)) h) := by
  refine zCtW.of (own := RL) (loc := [some (.inr (7, a)), some (.inl x1), some (.inr (21, o)), none]) (by decide) rfl (Nat.le_of_ble_eq_true rfl) (fun k v hk => ?_) ?_
  · exact zloc_ok 1 rfl hk
  intro p e s m args below meth c C Z1 Z2 Z3
  refine v_aload_n C dL_endOf_0 rfl ?_
  refine v_iconst C dL_endOf_1 rfl ?_
  refine v_aload_n C dL_endOf_2 rfl ?_
  refine v_iload_n C dL_endOf_3 rfl ?_
  exact v_xcatch (k := 1) (n1 := 9) (n2 := 12) C Z3 Z1 Z2 dL_endOf_4 mvL_49 hc rfl ⟨by decide, by decide, by decide, by decide⟩ ⟨rfl, Nat.le_of_ble_eq_true rfl⟩ (by decide) (g := 1) (fun H locs ls q cs sl Q hl kk => lv_astore_n C.1 C.2.1 dL_endOf_12 rfl hl (by decide) rfl fun ls9 hl9 => kk ls9 (zlo_sub hl9 fun _ hq => nomatch hq)) dL_endOf_13 dL_endOf_14 ⟨rfl, rfl⟩
theorem w_waitOf (w : zW) (l : Launch) (h : zH) (a o : Nat) (x1 : Int) (v : Int) (hq : q_X7_waitOf h a x1 = some v) : zCtW w l yL_waitOf cL_waitOf 4 [(0, 9, 12, 13)] 12 260 [.inr (7, a), .inl x1, .inr (21, o)] h (zFn (some (.inl 0)) (zput h o 0 v)) := by
  refine zCtW.of (own := RL) (loc := [some (.inr (7, a)), some (.inl x1), some (.inr (21, o)), none]) (by decide) rfl (Nat.le_of_ble_eq_true rfl) (fun k v hk => ?_) ?_
  · exact zloc_ok 1 rfl hk
  intro p e s m args below meth c C Z1 Z2 Z3
  refine v_aload_n C dL_waitOf_0 rfl ?_
  refine v_iconst C dL_waitOf_1 rfl ?_
  refine v_aload_n C dL_waitOf_2 rfl ?_
  refine v_iload_n C dL_waitOf_3 rfl ?_
  refine v_callV (k := 1) C dL_waitOf_4 mvL_52 (cq_X7_waitOf w l h a x1 v hq) rfl ⟨by decide, by decide⟩ ⟨Nat.zero_le _, Nat.zero_le _⟩ ⟨rfl, Nat.le_of_ble_eq_true rfl⟩ (fun r2 h2 q => ?_)
  rw [q.1, q.2]
  refine v_i2last C dL_waitOf_7 dL_waitOf_8 ?_
  refine v_goto C dL_waitOf_9 (tgt := 15) (by decide) ?_
  refine v_iconst C dL_waitOf_15 rfl ?_
  exact v_wret C Z1 Z2 (Nat.zero_le _) (Nat.zero_le _) dL_waitOf_16 ⟨rfl, rfl⟩
theorem wx_waitOf (w : zW) (l : Launch) (h : zH) (a o : Nat) (x1 : Int) (hc : zCx w l yX7_waitOf cX7_waitOf 3 (some .int) 7 121 [.inr (7, a), .inl x1] h) : zCtW w l yL_waitOf cL_waitOf 4 [(0, 9, 12, 13)] 12 260 [.inr (7, a), .inl x1, .inr (21, o)] h (zFn (some (.inl 1)) h) := by
  refine zCtW.of (own := RL) (loc := [some (.inr (7, a)), some (.inl x1), some (.inr (21, o)), none]) (by decide) rfl (Nat.le_of_ble_eq_true rfl) (fun k v hk => ?_) ?_
  · exact zloc_ok 1 rfl hk
  intro p e s m args below meth c C Z1 Z2 Z3
  refine v_aload_n C dL_waitOf_0 rfl ?_
  refine v_iconst C dL_waitOf_1 rfl ?_
  refine v_aload_n C dL_waitOf_2 rfl ?_
  refine v_iload_n C dL_waitOf_3 rfl ?_
  exact v_xcatch (k := 1) (n1 := 9) (n2 := 12) C Z3 Z1 Z2 dL_waitOf_4 mvL_52 hc rfl ⟨by decide, by decide, by decide, by decide⟩ ⟨rfl, Nat.le_of_ble_eq_true rfl⟩ (by decide) (g := 1) (fun H locs ls q cs sl Q hl kk => lv_astore_n C.1 C.2.1 dL_waitOf_12 rfl hl (by decide) rfl fun ls9 hl9 => kk ls9 (zlo_sub hl9 fun _ hq => nomatch hq)) dL_waitOf_13 dL_waitOf_14 ⟨rfl, rfl⟩
theorem w_marginOf (w : zW) (l : Launch) (h : zH) (a o : Nat) (x1 : Int) (v : Int) (hq : q_X7_marginOf h a x1 = some v) : zCtW w l yL_marginOf cL_marginOf 4 [(0, 9, 12, 13)] 12 260 [.inr (7, a), .inl x1, .inr (21, o)] h (zFn (some (.inl 0)) (zput h o 0 v)) := by
  refine zCtW.of (own := RL) (loc := [some (.inr (7, a)), some (.inl x1), some (.inr (21, o)), none]) (by decide) rfl (Nat.le_of_ble_eq_true rfl) (fun k v hk => ?_) ?_
  · exact zloc_ok 1 rfl hk
  intro p e s m args below meth c C Z1 Z2 Z3
  refine v_aload_n C dL_marginOf_0 rfl ?_
  refine v_iconst C dL_marginOf_1 rfl ?_
  refine v_aload_n C dL_marginOf_2 rfl ?_
  refine v_iload_n C dL_marginOf_3 rfl ?_
  refine v_callV (k := 1) C dL_marginOf_4 mvL_55 (cq_X7_marginOf w l h a x1 v hq) rfl ⟨by decide, by decide⟩ ⟨Nat.zero_le _, Nat.zero_le _⟩ ⟨rfl, Nat.le_of_ble_eq_true rfl⟩ (fun r2 h2 q => ?_)
  rw [q.1, q.2]
  refine v_i2last C dL_marginOf_7 dL_marginOf_8 ?_
  refine v_goto C dL_marginOf_9 (tgt := 15) (by decide) ?_
  refine v_iconst C dL_marginOf_15 rfl ?_
  exact v_wret C Z1 Z2 (Nat.zero_le _) (Nat.zero_le _) dL_marginOf_16 ⟨rfl, rfl⟩
theorem wx_marginOf (w : zW) (l : Launch) (h : zH) (a o : Nat) (x1 : Int) (hc : zCx w l yX7_marginOf cX7_marginOf 2 (some .int) 7 121 [.inr (7, a), .inl x1] h) : zCtW w l yL_marginOf cL_marginOf 4 [(0, 9, 12, 13)] 12 260 [.inr (7, a), .inl x1, .inr (21, o)] h (zFn (some (.inl 1)) h) := by
  refine zCtW.of (own := RL) (loc := [some (.inr (7, a)), some (.inl x1), some (.inr (21, o)), none]) (by decide) rfl (Nat.le_of_ble_eq_true rfl) (fun k v hk => ?_) ?_
  · exact zloc_ok 1 rfl hk
  intro p e s m args below meth c C Z1 Z2 Z3
  refine v_aload_n C dL_marginOf_0 rfl ?_
  refine v_iconst C dL_marginOf_1 rfl ?_
  refine v_aload_n C dL_marginOf_2 rfl ?_
  refine v_iload_n C dL_marginOf_3 rfl ?_
  exact v_xcatch (k := 1) (n1 := 9) (n2 := 12) C Z3 Z1 Z2 dL_marginOf_4 mvL_55 hc rfl ⟨by decide, by decide, by decide, by decide⟩ ⟨rfl, Nat.le_of_ble_eq_true rfl⟩ (by decide) (g := 1) (fun H locs ls q cs sl Q hl kk => lv_astore_n C.1 C.2.1 dL_marginOf_12 rfl hl (by decide) rfl fun ls9 hl9 => kk ls9 (zlo_sub hl9 fun _ hq => nomatch hq)) dL_marginOf_13 dL_marginOf_14 ⟨rfl, rfl⟩
theorem w_degradedFrames (w : zW) (l : Launch) (h : zH) (a o : Nat) (x1 : Int) (v : Int) (hq : q_X7_degradedFrames h a x1 = some v) : zCtW w l yL_degradedFrames cL_degradedFrames 4 [(0, 9, 12, 13)] 12 260 [.inr (7, a), .inl x1, .inr (21, o)] h (zFn (some (.inl 0)) (zput h o 0 v)) := by
  refine zCtW.of (own := RL) (loc := [some (.inr (7, a)), some (.inl x1), some (.inr (21, o)), none]) (by decide) rfl (Nat.le_of_ble_eq_true rfl) (fun k v hk => ?_) ?_
  · exact zloc_ok 1 rfl hk
  intro p e s m args below meth c C Z1 Z2 Z3
  refine v_aload_n C dL_degradedFrames_0 rfl ?_
  refine v_iconst C dL_degradedFrames_1 rfl ?_
  refine v_aload_n C dL_degradedFrames_2 rfl ?_
  refine v_iload_n C dL_degradedFrames_3 rfl ?_
  refine v_callV (k := 1) C dL_degradedFrames_4 mvL_58 (cq_X7_degradedFrames w l h a x1 v hq) rfl ⟨by decide, by decide⟩ ⟨Nat.zero_le _, Nat.zero_le _⟩ ⟨rfl, Nat.le_of_ble_eq_true rfl⟩ (fun r2 h2 q => ?_)
  rw [q.1, q.2]
  refine v_i2last C dL_degradedFrames_7 dL_degradedFrames_8 ?_
  refine v_goto C dL_degradedFrames_9 (tgt := 15) (by decide) ?_
  refine v_iconst C dL_degradedFrames_15 rfl ?_
  exact v_wret C Z1 Z2 (Nat.zero_le _) (Nat.zero_le _) dL_degradedFrames_16 ⟨rfl, rfl⟩
theorem wx_degradedFrames (w : zW) (l : Launch) (h : zH) (a o : Nat) (x1 : Int) (hc : zCx w l yX7_degradedFrames cX7_degradedFrames 2 (some .int) 7 121 [.inr (7, a), .inl x1] h) : zCtW w l yL_degradedFrames cL_degradedFrames 4 [(0, 9, 12, 13)] 12 260 [.inr (7, a), .inl x1, .inr (21, o)] h (zFn (some (.inl 1)) h) := by
  refine zCtW.of (own := RL) (loc := [some (.inr (7, a)), some (.inl x1), some (.inr (21, o)), none]) (by decide) rfl (Nat.le_of_ble_eq_true rfl) (fun k v hk => ?_) ?_
  · exact zloc_ok 1 rfl hk
  intro p e s m args below meth c C Z1 Z2 Z3
  refine v_aload_n C dL_degradedFrames_0 rfl ?_
  refine v_iconst C dL_degradedFrames_1 rfl ?_
  refine v_aload_n C dL_degradedFrames_2 rfl ?_
  refine v_iload_n C dL_degradedFrames_3 rfl ?_
  exact v_xcatch (k := 1) (n1 := 9) (n2 := 12) C Z3 Z1 Z2 dL_degradedFrames_4 mvL_58 hc rfl ⟨by decide, by decide, by decide, by decide⟩ ⟨rfl, Nat.le_of_ble_eq_true rfl⟩ (by decide) (g := 1) (fun H locs ls q cs sl Q hl kk => lv_astore_n C.1 C.2.1 dL_degradedFrames_12 rfl hl (by decide) rfl fun ls9 hl9 => kk ls9 (zlo_sub hl9 fun _ hq => nomatch hq)) dL_degradedFrames_13 dL_degradedFrames_14 ⟨rfl, rfl⟩
theorem w_callsOn (w : zW) (l : Launch) (h : zH) (a o : Nat) (x1 : Int) (v : Int) (hq : q_X7_callsOn h a x1 = some v) : zCtW w l yL_callsOn cL_callsOn 4 [(0, 9, 12, 13)] 12 260 [.inr (7, a), .inl x1, .inr (21, o)] h (zFn (some (.inl 0)) (zput h o 0 v)) := by
  refine zCtW.of (own := RL) (loc := [some (.inr (7, a)), some (.inl x1), some (.inr (21, o)), none]) (by decide) rfl (Nat.le_of_ble_eq_true rfl) (fun k v hk => ?_) ?_
  · exact zloc_ok 1 rfl hk
  intro p e s m args below meth c C Z1 Z2 Z3
  refine v_aload_n C dL_callsOn_0 rfl ?_
  refine v_iconst C dL_callsOn_1 rfl ?_
  refine v_aload_n C dL_callsOn_2 rfl ?_
  refine v_iload_n C dL_callsOn_3 rfl ?_
  refine v_callV (k := 1) C dL_callsOn_4 mvL_61 (cq_X7_callsOn w l h a x1 v hq) rfl ⟨by decide, by decide⟩ ⟨Nat.zero_le _, Nat.zero_le _⟩ ⟨rfl, Nat.le_of_ble_eq_true rfl⟩ (fun r2 h2 q => ?_)
  rw [q.1, q.2]
  refine v_i2last C dL_callsOn_7 dL_callsOn_8 ?_
  refine v_goto C dL_callsOn_9 (tgt := 15) (by decide) ?_
  refine v_iconst C dL_callsOn_15 rfl ?_
  exact v_wret C Z1 Z2 (Nat.zero_le _) (Nat.zero_le _) dL_callsOn_16 ⟨rfl, rfl⟩
theorem wx_callsOn (w : zW) (l : Launch) (h : zH) (a o : Nat) (x1 : Int) (hc : zCx w l yX7_callsOn cX7_callsOn 4 (some .int) 7 121 [.inr (7, a), .inl x1] h) : zCtW w l yL_callsOn cL_callsOn 4 [(0, 9, 12, 13)] 12 260 [.inr (7, a), .inl x1, .inr (21, o)] h (zFn (some (.inl 1)) h) := by
  refine zCtW.of (own := RL) (loc := [some (.inr (7, a)), some (.inl x1), some (.inr (21, o)), none]) (by decide) rfl (Nat.le_of_ble_eq_true rfl) (fun k v hk => ?_) ?_
  · exact zloc_ok 1 rfl hk
  intro p e s m args below meth c C Z1 Z2 Z3
  refine v_aload_n C dL_callsOn_0 rfl ?_
  refine v_iconst C dL_callsOn_1 rfl ?_
  refine v_aload_n C dL_callsOn_2 rfl ?_
  refine v_iload_n C dL_callsOn_3 rfl ?_
  exact v_xcatch (k := 1) (n1 := 9) (n2 := 12) C Z3 Z1 Z2 dL_callsOn_4 mvL_61 hc rfl ⟨by decide, by decide, by decide, by decide⟩ ⟨rfl, Nat.le_of_ble_eq_true rfl⟩ (by decide) (g := 1) (fun H locs ls q cs sl Q hl kk => lv_astore_n C.1 C.2.1 dL_callsOn_12 rfl hl (by decide) rfl fun ls9 hl9 => kk ls9 (zlo_sub hl9 fun _ hq => nomatch hq)) dL_callsOn_13 dL_callsOn_14 ⟨rfl, rfl⟩
theorem w_usedSymbols (w : zW) (l : Launch) (h : zH) (a o : Nat) (x1 : Int) (v : Int) (hq : q_X7_usedSymbols h a x1 = some v) : zCtW w l yL_usedSymbols cL_usedSymbols 4 [(0, 9, 12, 13)] 12 260 [.inr (7, a), .inl x1, .inr (21, o)] h (zFn (some (.inl 0)) (zput h o 0 v)) := by
  refine zCtW.of (own := RL) (loc := [some (.inr (7, a)), some (.inl x1), some (.inr (21, o)), none]) (by decide) rfl (Nat.le_of_ble_eq_true rfl) (fun k v hk => ?_) ?_
  · exact zloc_ok 1 rfl hk
  intro p e s m args below meth c C Z1 Z2 Z3
  refine v_aload_n C dL_usedSymbols_0 rfl ?_
  refine v_iconst C dL_usedSymbols_1 rfl ?_
  refine v_aload_n C dL_usedSymbols_2 rfl ?_
  refine v_iload_n C dL_usedSymbols_3 rfl ?_
  refine v_callV (k := 1) C dL_usedSymbols_4 mvL_64 (cq_X7_usedSymbols w l h a x1 v hq) rfl ⟨by decide, by decide⟩ ⟨Nat.zero_le _, Nat.zero_le _⟩ ⟨rfl, Nat.le_of_ble_eq_true rfl⟩ (fun r2 h2 q => ?_)
  rw [q.1, q.2]
  refine v_i2last C dL_usedSymbols_7 dL_usedSymbols_8 ?_
  refine v_goto C dL_usedSymbols_9 (tgt := 15) (by decide) ?_
  refine v_iconst C dL_usedSymbols_15 rfl ?_
  exact v_wret C Z1 Z2 (Nat.zero_le _) (Nat.zero_le _) dL_usedSymbols_16 ⟨rfl, rfl⟩
theorem wx_usedSymbols (w : zW) (l : Launch) (h : zH) (a o : Nat) (x1 : Int) (hc : zCx w l yX7_usedSymbols cX7_usedSymbols 4 (some .int) 7 121 [.inr (7, a), .inl x1] h) : zCtW w l yL_usedSymbols cL_usedSymbols 4 [(0, 9, 12, 13)] 12 260 [.inr (7, a), .inl x1, .inr (21, o)] h (zFn (some (.inl 1)) h) := by
  refine zCtW.of (own := RL) (loc := [some (.inr (7, a)), some (.inl x1), some (.inr (21, o)), none]) (by decide) rfl (Nat.le_of_ble_eq_true rfl) (fun k v hk => ?_) ?_
  · exact zloc_ok 1 rfl hk
  intro p e s m args below meth c C Z1 Z2 Z3
  refine v_aload_n C dL_usedSymbols_0 rfl ?_
  refine v_iconst C dL_usedSymbols_1 rfl ?_
  refine v_aload_n C dL_usedSymbols_2 rfl ?_
  refine v_iload_n C dL_usedSymbols_3 rfl ?_
  exact v_xcatch (k := 1) (n1 := 9) (n2 := 12) C Z3 Z1 Z2 dL_usedSymbols_4 mvL_64 hc rfl ⟨by decide, by decide, by decide, by decide⟩ ⟨rfl, Nat.le_of_ble_eq_true rfl⟩ (by decide) (g := 1) (fun H locs ls q cs sl Q hl kk => lv_astore_n C.1 C.2.1 dL_usedSymbols_12 rfl hl (by decide) rfl fun ls9 hl9 => kk ls9 (zlo_sub hl9 fun _ hq => nomatch hq)) dL_usedSymbols_13 dL_usedSymbols_14 ⟨rfl, rfl⟩
theorem w_callAt (w : zW) (l : Launch) (h : zH) (a o : Nat) (x1 x2 : Int) (v : Int) (hq : q_X7_callAt h a x1 x2 = some v) : zCtW w l yL_callAt cL_callAt 5 [(0, 10, 13, 13)] 12 260 [.inr (7, a), .inl x1, .inl x2, .inr (21, o)] h (zFn (some (.inl 0)) (zput h o 0 v)) := by
  refine zCtW.of (own := RL) (loc := [some (.inr (7, a)), some (.inl x1), some (.inl x2), some (.inr (21, o)), none]) (by decide) rfl (Nat.le_of_ble_eq_true rfl) (fun k v hk => ?_) ?_
  · exact zloc_ok 1 rfl hk
  intro p e s m args below meth c C Z1 Z2 Z3
  refine v_aload_n C dL_callAt_0 rfl ?_
  refine v_iconst C dL_callAt_1 rfl ?_
  refine v_aload_n C dL_callAt_2 rfl ?_
  refine v_iload_n C dL_callAt_3 rfl ?_
  refine v_iload_n C dL_callAt_4 rfl ?_
  refine v_callV (k := 2) C dL_callAt_5 mvL_67 (cq_X7_callAt w l h a x1 x2 v hq) rfl ⟨by decide, by decide⟩ ⟨Nat.zero_le _, Nat.zero_le _⟩ ⟨rfl, Nat.le_of_ble_eq_true rfl⟩ (fun r2 h2 q => ?_)
  rw [q.1, q.2]
  refine v_i2last C dL_callAt_8 dL_callAt_9 ?_
  refine v_goto C dL_callAt_10 (tgt := 17) (by decide) ?_
  refine v_iconst C dL_callAt_17 rfl ?_
  exact v_wret C Z1 Z2 (Nat.zero_le _) (Nat.zero_le _) dL_callAt_18 ⟨rfl, rfl⟩
theorem wx_callAt (w : zW) (l : Launch) (h : zH) (a o : Nat) (x1 x2 : Int) (hc : zCx w l yX7_callAt cX7_callAt 4 (some .int) 7 121 [.inr (7, a), .inl x1, .inl x2] h) : zCtW w l yL_callAt cL_callAt 5 [(0, 10, 13, 13)] 12 260 [.inr (7, a), .inl x1, .inl x2, .inr (21, o)] h (zFn (some (.inl 1)) h) := by
  refine zCtW.of (own := RL) (loc := [some (.inr (7, a)), some (.inl x1), some (.inl x2), some (.inr (21, o)), none]) (by decide) rfl (Nat.le_of_ble_eq_true rfl) (fun k v hk => ?_) ?_
  · exact zloc_ok 1 rfl hk
  intro p e s m args below meth c C Z1 Z2 Z3
  refine v_aload_n C dL_callAt_0 rfl ?_
  refine v_iconst C dL_callAt_1 rfl ?_
  refine v_aload_n C dL_callAt_2 rfl ?_
  refine v_iload_n C dL_callAt_3 rfl ?_
  refine v_iload_n C dL_callAt_4 rfl ?_
  exact v_xcatch (k := 2) (n1 := 10) (n2 := 13) C Z3 Z1 Z2 dL_callAt_5 mvL_67 hc rfl ⟨by decide, by decide, by decide, by decide⟩ ⟨rfl, Nat.le_of_ble_eq_true rfl⟩ (by decide) (g := 2) (fun H locs ls q cs sl Q hl kk => lv_astore C.1 C.2.1 dL_callAt_13 hl (by decide) rfl fun ls9 hl9 => kk ls9 (zlo_sub hl9 fun _ hq => nomatch hq)) dL_callAt_15 dL_callAt_16 ⟨rfl, rfl⟩
theorem w_longestFit (w : zW) (l : Launch) (h : zH) (a o : Nat) (x1 : Int) (v : Int) (hq : q_X7_longestFit h a x1 = some v) : zCtW w l yL_longestFit cL_longestFit 4 [(0, 9, 12, 13)] 12 260 [.inr (7, a), .inl x1, .inr (21, o)] h (zFn (some (.inl 0)) (zput h o 0 v)) := by
  refine zCtW.of (own := RL) (loc := [some (.inr (7, a)), some (.inl x1), some (.inr (21, o)), none]) (by decide) rfl (Nat.le_of_ble_eq_true rfl) (fun k v hk => ?_) ?_
  · exact zloc_ok 1 rfl hk
  intro p e s m args below meth c C Z1 Z2 Z3
  refine v_aload_n C dL_longestFit_0 rfl ?_
  refine v_iconst C dL_longestFit_1 rfl ?_
  refine v_aload_n C dL_longestFit_2 rfl ?_
  refine v_iload_n C dL_longestFit_3 rfl ?_
  refine v_callV (k := 1) C dL_longestFit_4 mvL_70 (cq_X7_longestFit w l h a x1 v hq) rfl ⟨by decide, by decide⟩ ⟨Nat.zero_le _, Nat.zero_le _⟩ ⟨rfl, Nat.le_of_ble_eq_true rfl⟩ (fun r2 h2 q => ?_)
  rw [q.1, q.2]
  refine v_i2last C dL_longestFit_7 dL_longestFit_8 ?_
  refine v_goto C dL_longestFit_9 (tgt := 15) (by decide) ?_
  refine v_iconst C dL_longestFit_15 rfl ?_
  exact v_wret C Z1 Z2 (Nat.zero_le _) (Nat.zero_le _) dL_longestFit_16 ⟨rfl, rfl⟩
theorem wx_longestFit (w : zW) (l : Launch) (h : zH) (a o : Nat) (x1 : Int) (hc : zCx w l yX7_longestFit cX7_longestFit 2 (some .int) 7 121 [.inr (7, a), .inl x1] h) : zCtW w l yL_longestFit cL_longestFit 4 [(0, 9, 12, 13)] 12 260 [.inr (7, a), .inl x1, .inr (21, o)] h (zFn (some (.inl 1)) h) := by
  refine zCtW.of (own := RL) (loc := [some (.inr (7, a)), some (.inl x1), some (.inr (21, o)), none]) (by decide) rfl (Nat.le_of_ble_eq_true rfl) (fun k v hk => ?_) ?_
  · exact zloc_ok 1 rfl hk
  intro p e s m args below meth c C Z1 Z2 Z3
  refine v_aload_n C dL_longestFit_0 rfl ?_
  refine v_iconst C dL_longestFit_1 rfl ?_
  refine v_aload_n C dL_longestFit_2 rfl ?_
  refine v_iload_n C dL_longestFit_3 rfl ?_
  exact v_xcatch (k := 1) (n1 := 9) (n2 := 12) C Z3 Z1 Z2 dL_longestFit_4 mvL_70 hc rfl ⟨by decide, by decide, by decide, by decide⟩ ⟨rfl, Nat.le_of_ble_eq_true rfl⟩ (by decide) (g := 1) (fun H locs ls q cs sl Q hl kk => lv_astore_n C.1 C.2.1 dL_longestFit_12 rfl hl (by decide) rfl fun ls9 hl9 => kk ls9 (zlo_sub hl9 fun _ hq => nomatch hq)) dL_longestFit_13 dL_longestFit_14 ⟨rfl, rfl⟩
theorem w_fitsWithout (w : zW) (l : Launch) (h : zH) (a o : Nat) (x1 x2 : Int) (v : Int) (hq : q_X7_fitsWithout h a x1 x2 = some v) : zCtW w l yL_fitsWithout cL_fitsWithout 5 [(0, 17, 20, 13)] 12 260 [.inr (7, a), .inl x1, .inl x2, .inr (21, o)] h (zFn (some (.inl 0)) (zput h o 0 (if v = 0 then 0 else 1))) := by
  refine zCtW.of (own := RL) (loc := [some (.inr (7, a)), some (.inl x1), some (.inl x2), some (.inr (21, o)), none]) (by decide) rfl (Nat.le_of_ble_eq_true rfl) (fun k v hk => ?_) ?_
  · exact zloc_ok 1 rfl hk
  intro p e s m args below meth c C Z1 Z2 Z3
  refine v_aload_n C dL_fitsWithout_0 rfl ?_
  refine v_iconst C dL_fitsWithout_1 rfl ?_
  refine v_aload_n C dL_fitsWithout_2 rfl ?_
  refine v_iload_n C dL_fitsWithout_3 rfl ?_
  refine v_iload_n C dL_fitsWithout_4 rfl ?_
  refine v_callV (k := 2) C dL_fitsWithout_5 mvL_73 (cq_X7_fitsWithout w l h a x1 x2 v hq) rfl ⟨by decide, by decide⟩ ⟨Nat.zero_le _, Nat.zero_le _⟩ ⟨rfl, Nat.le_of_ble_eq_true rfl⟩ (fun r2 h2 q => ?_)
  rw [q.1, q.2]
  refine v_if_eq C dL_fitsWithout_8 (tgt := 15) (by decide) (fun c1 => ?_) (fun c1 => ?_)
  · rw [if_pos c1]
    refine v_l0last C dL_fitsWithout_15 dL_fitsWithout_16 ?_
    refine v_goto C dL_fitsWithout_17 (tgt := 24) (by decide) ?_
    refine v_iconst C dL_fitsWithout_24 rfl ?_
    exact v_wret C Z1 Z2 (Nat.zero_le _) (Nat.zero_le _) dL_fitsWithout_25 ⟨rfl, rfl⟩
  · rw [if_neg c1]
    refine v_l1last C dL_fitsWithout_11 dL_fitsWithout_12 (tgt := 16) (by decide) dL_fitsWithout_16 ?_
    refine v_goto C dL_fitsWithout_17 (tgt := 24) (by decide) ?_
    refine v_iconst C dL_fitsWithout_24 rfl ?_
    exact v_wret C Z1 Z2 (Nat.zero_le _) (Nat.zero_le _) dL_fitsWithout_25 ⟨rfl, rfl⟩
theorem wx_fitsWithout (w : zW) (l : Launch) (h : zH) (a o : Nat) (x1 x2 : Int) (hc : zCx w l yX7_fitsWithout cX7_fitsWithout 5 (some .boolean) 7 121 [.inr (7, a), .inl x1, .inl x2] h) : zCtW w l yL_fitsWithout cL_fitsWithout 5 [(0, 17, 20, 13)] 12 260 [.inr (7, a), .inl x1, .inl x2, .inr (21, o)] h (zFn (some (.inl 1)) h) := by
  refine zCtW.of (own := RL) (loc := [some (.inr (7, a)), some (.inl x1), some (.inl x2), some (.inr (21, o)), none]) (by decide) rfl (Nat.le_of_ble_eq_true rfl) (fun k v hk => ?_) ?_
  · exact zloc_ok 1 rfl hk
  intro p e s m args below meth c C Z1 Z2 Z3
  refine v_aload_n C dL_fitsWithout_0 rfl ?_
  refine v_iconst C dL_fitsWithout_1 rfl ?_
  refine v_aload_n C dL_fitsWithout_2 rfl ?_
  refine v_iload_n C dL_fitsWithout_3 rfl ?_
  refine v_iload_n C dL_fitsWithout_4 rfl ?_
  exact v_xcatch (k := 2) (n1 := 17) (n2 := 20) C Z3 Z1 Z2 dL_fitsWithout_5 mvL_73 hc rfl ⟨by decide, by decide, by decide, by decide⟩ ⟨rfl, Nat.le_of_ble_eq_true rfl⟩ (by decide) (g := 2) (fun H locs ls q cs sl Q hl kk => lv_astore C.1 C.2.1 dL_fitsWithout_20 hl (by decide) rfl fun ls9 hl9 => kk ls9 (zlo_sub hl9 fun _ hq => nomatch hq)) dL_fitsWithout_22 dL_fitsWithout_23 ⟨rfl, rfl⟩
theorem w_callsToDrop (w : zW) (l : Launch) (h : zH) (a o : Nat) (x1 : Int) (v : Int) (hq : q_X7_callsToDrop h a x1 = some v) : zCtW w l yL_callsToDrop cL_callsToDrop 4 [(0, 9, 12, 13)] 12 260 [.inr (7, a), .inl x1, .inr (21, o)] h (zFn (some (.inl 0)) (zput h o 0 v)) := by
  refine zCtW.of (own := RL) (loc := [some (.inr (7, a)), some (.inl x1), some (.inr (21, o)), none]) (by decide) rfl (Nat.le_of_ble_eq_true rfl) (fun k v hk => ?_) ?_
  · exact zloc_ok 1 rfl hk
  intro p e s m args below meth c C Z1 Z2 Z3
  refine v_aload_n C dL_callsToDrop_0 rfl ?_
  refine v_iconst C dL_callsToDrop_1 rfl ?_
  refine v_aload_n C dL_callsToDrop_2 rfl ?_
  refine v_iload_n C dL_callsToDrop_3 rfl ?_
  refine v_callV (k := 1) C dL_callsToDrop_4 mvL_77 (cq_X7_callsToDrop w l h a x1 v hq) rfl ⟨by decide, by decide⟩ ⟨Nat.zero_le _, Nat.zero_le _⟩ ⟨rfl, Nat.le_of_ble_eq_true rfl⟩ (fun r2 h2 q => ?_)
  rw [q.1, q.2]
  refine v_i2last C dL_callsToDrop_7 dL_callsToDrop_8 ?_
  refine v_goto C dL_callsToDrop_9 (tgt := 15) (by decide) ?_
  refine v_iconst C dL_callsToDrop_15 rfl ?_
  exact v_wret C Z1 Z2 (Nat.zero_le _) (Nat.zero_le _) dL_callsToDrop_16 ⟨rfl, rfl⟩
theorem wx_callsToDrop (w : zW) (l : Launch) (h : zH) (a o : Nat) (x1 : Int) (hc : zCx w l yX7_callsToDrop cX7_callsToDrop 3 (some .int) 7 121 [.inr (7, a), .inl x1] h) : zCtW w l yL_callsToDrop cL_callsToDrop 4 [(0, 9, 12, 13)] 12 260 [.inr (7, a), .inl x1, .inr (21, o)] h (zFn (some (.inl 1)) h) := by
  refine zCtW.of (own := RL) (loc := [some (.inr (7, a)), some (.inl x1), some (.inr (21, o)), none]) (by decide) rfl (Nat.le_of_ble_eq_true rfl) (fun k v hk => ?_) ?_
  · exact zloc_ok 1 rfl hk
  intro p e s m args below meth c C Z1 Z2 Z3
  refine v_aload_n C dL_callsToDrop_0 rfl ?_
  refine v_iconst C dL_callsToDrop_1 rfl ?_
  refine v_aload_n C dL_callsToDrop_2 rfl ?_
  refine v_iload_n C dL_callsToDrop_3 rfl ?_
  exact v_xcatch (k := 1) (n1 := 9) (n2 := 12) C Z3 Z1 Z2 dL_callsToDrop_4 mvL_77 hc rfl ⟨by decide, by decide, by decide, by decide⟩ ⟨rfl, Nat.le_of_ble_eq_true rfl⟩ (by decide) (g := 1) (fun H locs ls q cs sl Q hl kk => lv_astore_n C.1 C.2.1 dL_callsToDrop_12 rfl hl (by decide) rfl fun ls9 hl9 => kk ls9 (zlo_sub hl9 fun _ hq => nomatch hq)) dL_callsToDrop_13 dL_callsToDrop_14 ⟨rfl, rfl⟩
theorem w_clearFrame (w : zW) (l : Launch) (h : zH) (a o : Nat) (x1 : Int) (v : Int) (hq : q_X7_clearFrame h a x1 = some v) : zCtW w l yL_clearFrame cL_clearFrame 4 [(0, 9, 12, 13)] 12 260 [.inr (7, a), .inl x1, .inr (21, o)] h (zFn (some (.inl 0)) (zput h o 0 v)) := by
  refine zCtW.of (own := RL) (loc := [some (.inr (7, a)), some (.inl x1), some (.inr (21, o)), none]) (by decide) rfl (Nat.le_of_ble_eq_true rfl) (fun k v hk => ?_) ?_
  · exact zloc_ok 1 rfl hk
  intro p e s m args below meth c C Z1 Z2 Z3
  refine v_aload_n C dL_clearFrame_0 rfl ?_
  refine v_iconst C dL_clearFrame_1 rfl ?_
  refine v_aload_n C dL_clearFrame_2 rfl ?_
  refine v_iload_n C dL_clearFrame_3 rfl ?_
  refine v_callV (k := 1) C dL_clearFrame_4 mvL_80 (cq_X7_clearFrame w l h a x1 v hq) rfl ⟨by decide, by decide⟩ ⟨Nat.zero_le _, Nat.zero_le _⟩ ⟨rfl, Nat.le_of_ble_eq_true rfl⟩ (fun r2 h2 q => ?_)
  rw [q.1, q.2]
  refine v_i2last C dL_clearFrame_7 dL_clearFrame_8 ?_
  refine v_goto C dL_clearFrame_9 (tgt := 15) (by decide) ?_
  refine v_iconst C dL_clearFrame_15 rfl ?_
  exact v_wret C Z1 Z2 (Nat.zero_le _) (Nat.zero_le _) dL_clearFrame_16 ⟨rfl, rfl⟩
theorem wx_clearFrame (w : zW) (l : Launch) (h : zH) (a o : Nat) (x1 : Int) (hc : zCx w l yX7_clearFrame cX7_clearFrame 6 (some .int) 7 121 [.inr (7, a), .inl x1] h) : zCtW w l yL_clearFrame cL_clearFrame 4 [(0, 9, 12, 13)] 12 260 [.inr (7, a), .inl x1, .inr (21, o)] h (zFn (some (.inl 1)) h) := by
  refine zCtW.of (own := RL) (loc := [some (.inr (7, a)), some (.inl x1), some (.inr (21, o)), none]) (by decide) rfl (Nat.le_of_ble_eq_true rfl) (fun k v hk => ?_) ?_
  · exact zloc_ok 1 rfl hk
  intro p e s m args below meth c C Z1 Z2 Z3
  refine v_aload_n C dL_clearFrame_0 rfl ?_
  refine v_iconst C dL_clearFrame_1 rfl ?_
  refine v_aload_n C dL_clearFrame_2 rfl ?_
  refine v_iload_n C dL_clearFrame_3 rfl ?_
  exact v_xcatch (k := 1) (n1 := 9) (n2 := 12) C Z3 Z1 Z2 dL_clearFrame_4 mvL_80 hc rfl ⟨by decide, by decide, by decide, by decide⟩ ⟨rfl, Nat.le_of_ble_eq_true rfl⟩ (by decide) (g := 1) (fun H locs ls q cs sl Q hl kk => lv_astore_n C.1 C.2.1 dL_clearFrame_12 rfl hl (by decide) rfl fun ls9 hl9 => kk ls9 (zlo_sub hl9 fun _ hq => nomatch hq)) dL_clearFrame_13 dL_clearFrame_14 ⟨rfl, rfl⟩
theorem w_callOver (w : zW) (l : Launch) (h : zH) (a o : Nat) (x1 x2 : Int) (v : Int) (hq : q_X7_callOver h a x1 x2 = some v) : zCtW w l yL_callOver cL_callOver 5 [(0, 10, 13, 13)] 12 260 [.inr (7, a), .inl x1, .inl x2, .inr (21, o)] h (zFn (some (.inl 0)) (zput h o 0 v)) := by
  refine zCtW.of (own := RL) (loc := [some (.inr (7, a)), some (.inl x1), some (.inl x2), some (.inr (21, o)), none]) (by decide) rfl (Nat.le_of_ble_eq_true rfl) (fun k v hk => ?_) ?_
  · exact zloc_ok 1 rfl hk
  intro p e s m args below meth c C Z1 Z2 Z3
  refine v_aload_n C dL_callOver_0 rfl ?_
  refine v_iconst C dL_callOver_1 rfl ?_
  refine v_aload_n C dL_callOver_2 rfl ?_
  refine v_iload_n C dL_callOver_3 rfl ?_
  refine v_iload_n C dL_callOver_4 rfl ?_
  refine v_callV (k := 2) C dL_callOver_5 mvL_83 (cq_X7_callOver w l h a x1 x2 v hq) rfl ⟨by decide, by decide⟩ ⟨Nat.zero_le _, Nat.zero_le _⟩ ⟨rfl, Nat.le_of_ble_eq_true rfl⟩ (fun r2 h2 q => ?_)
  rw [q.1, q.2]
  refine v_i2last C dL_callOver_8 dL_callOver_9 ?_
  refine v_goto C dL_callOver_10 (tgt := 17) (by decide) ?_
  refine v_iconst C dL_callOver_17 rfl ?_
  exact v_wret C Z1 Z2 (Nat.zero_le _) (Nat.zero_le _) dL_callOver_18 ⟨rfl, rfl⟩
theorem wx_callOver (w : zW) (l : Launch) (h : zH) (a o : Nat) (x1 x2 : Int) (hc : zCx w l yX7_callOver cX7_callOver 5 (some .int) 7 121 [.inr (7, a), .inl x1, .inl x2] h) : zCtW w l yL_callOver cL_callOver 5 [(0, 10, 13, 13)] 12 260 [.inr (7, a), .inl x1, .inl x2, .inr (21, o)] h (zFn (some (.inl 1)) h) := by
  refine zCtW.of (own := RL) (loc := [some (.inr (7, a)), some (.inl x1), some (.inl x2), some (.inr (21, o)), none]) (by decide) rfl (Nat.le_of_ble_eq_true rfl) (fun k v hk => ?_) ?_
  · exact zloc_ok 1 rfl hk
  intro p e s m args below meth c C Z1 Z2 Z3
  refine v_aload_n C dL_callOver_0 rfl ?_
  refine v_iconst C dL_callOver_1 rfl ?_
  refine v_aload_n C dL_callOver_2 rfl ?_
  refine v_iload_n C dL_callOver_3 rfl ?_
  refine v_iload_n C dL_callOver_4 rfl ?_
  exact v_xcatch (k := 2) (n1 := 10) (n2 := 13) C Z3 Z1 Z2 dL_callOver_5 mvL_83 hc rfl ⟨by decide, by decide, by decide, by decide⟩ ⟨rfl, Nat.le_of_ble_eq_true rfl⟩ (by decide) (g := 2) (fun H locs ls q cs sl Q hl kk => lv_astore C.1 C.2.1 dL_callOver_13 hl (by decide) rfl fun ls9 hl9 => kk ls9 (zlo_sub hl9 fun _ hq => nomatch hq)) dL_callOver_15 dL_callOver_16 ⟨rfl, rfl⟩
theorem w_earliestStart (w : zW) (l : Launch) (h : zH) (a o : Nat) (x1 x2 : Int) (v : Int) (hq : q_X7_earliestStart h a x1 x2 = some v) : zCtW w l yL_earliestStart cL_earliestStart 5 [(0, 10, 13, 13)] 12 260 [.inr (7, a), .inl x1, .inl x2, .inr (21, o)] h (zFn (some (.inl 0)) (zput h o 0 v)) := by
  refine zCtW.of (own := RL) (loc := [some (.inr (7, a)), some (.inl x1), some (.inl x2), some (.inr (21, o)), none]) (by decide) rfl (Nat.le_of_ble_eq_true rfl) (fun k v hk => ?_) ?_
  · exact zloc_ok 1 rfl hk
  intro p e s m args below meth c C Z1 Z2 Z3
  refine v_aload_n C dL_earliestStart_0 rfl ?_
  refine v_iconst C dL_earliestStart_1 rfl ?_
  refine v_aload_n C dL_earliestStart_2 rfl ?_
  refine v_iload_n C dL_earliestStart_3 rfl ?_
  refine v_iload_n C dL_earliestStart_4 rfl ?_
  refine v_callV (k := 2) C dL_earliestStart_5 mvL_86 (cq_X7_earliestStart w l h a x1 x2 v hq) rfl ⟨by decide, by decide⟩ ⟨Nat.zero_le _, Nat.zero_le _⟩ ⟨rfl, Nat.le_of_ble_eq_true rfl⟩ (fun r2 h2 q => ?_)
  rw [q.1, q.2]
  refine v_i2last C dL_earliestStart_8 dL_earliestStart_9 ?_
  refine v_goto C dL_earliestStart_10 (tgt := 17) (by decide) ?_
  refine v_iconst C dL_earliestStart_17 rfl ?_
  exact v_wret C Z1 Z2 (Nat.zero_le _) (Nat.zero_le _) dL_earliestStart_18 ⟨rfl, rfl⟩
theorem wx_earliestStart (w : zW) (l : Launch) (h : zH) (a o : Nat) (x1 x2 : Int) (hc : zCx w l yX7_earliestStart cX7_earliestStart 4 (some .int) 7 121 [.inr (7, a), .inl x1, .inl x2] h) : zCtW w l yL_earliestStart cL_earliestStart 5 [(0, 10, 13, 13)] 12 260 [.inr (7, a), .inl x1, .inl x2, .inr (21, o)] h (zFn (some (.inl 1)) h) := by
  refine zCtW.of (own := RL) (loc := [some (.inr (7, a)), some (.inl x1), some (.inl x2), some (.inr (21, o)), none]) (by decide) rfl (Nat.le_of_ble_eq_true rfl) (fun k v hk => ?_) ?_
  · exact zloc_ok 1 rfl hk
  intro p e s m args below meth c C Z1 Z2 Z3
  refine v_aload_n C dL_earliestStart_0 rfl ?_
  refine v_iconst C dL_earliestStart_1 rfl ?_
  refine v_aload_n C dL_earliestStart_2 rfl ?_
  refine v_iload_n C dL_earliestStart_3 rfl ?_
  refine v_iload_n C dL_earliestStart_4 rfl ?_
  exact v_xcatch (k := 2) (n1 := 10) (n2 := 13) C Z3 Z1 Z2 dL_earliestStart_5 mvL_86 hc rfl ⟨by decide, by decide, by decide, by decide⟩ ⟨rfl, Nat.le_of_ble_eq_true rfl⟩ (by decide) (g := 2) (fun H locs ls q cs sl Q hl kk => lv_astore C.1 C.2.1 dL_earliestStart_13 hl (by decide) rfl fun ls9 hl9 => kk ls9 (zlo_sub hl9 fun _ hq => nomatch hq)) dL_earliestStart_15 dL_earliestStart_16 ⟨rfl, rfl⟩
theorem w_conflicts (w : zW) (l : Launch) (h : zH) (a o : Nat) (x1 : Int) (v : Int) (hq : q_X7_conflicts h a x1 = some v) : zCtW w l yL_conflicts cL_conflicts 4 [(0, 9, 12, 13)] 12 260 [.inr (7, a), .inl x1, .inr (21, o)] h (zFn (some (.inl 0)) (zput h o 0 v)) := by
  refine zCtW.of (own := RL) (loc := [some (.inr (7, a)), some (.inl x1), some (.inr (21, o)), none]) (by decide) rfl (Nat.le_of_ble_eq_true rfl) (fun k v hk => ?_) ?_
  · exact zloc_ok 1 rfl hk
  intro p e s m args below meth c C Z1 Z2 Z3
  refine v_aload_n C dL_conflicts_0 rfl ?_
  refine v_iconst C dL_conflicts_1 rfl ?_
  refine v_aload_n C dL_conflicts_2 rfl ?_
  refine v_iload_n C dL_conflicts_3 rfl ?_
  refine v_callV (k := 1) C dL_conflicts_4 mvL_89 (cq_X7_conflicts w l h a x1 v hq) rfl ⟨by decide, by decide⟩ ⟨Nat.zero_le _, Nat.zero_le _⟩ ⟨rfl, Nat.le_of_ble_eq_true rfl⟩ (fun r2 h2 q => ?_)
  rw [q.1, q.2]
  refine v_i2last C dL_conflicts_7 dL_conflicts_8 ?_
  refine v_goto C dL_conflicts_9 (tgt := 15) (by decide) ?_
  refine v_iconst C dL_conflicts_15 rfl ?_
  exact v_wret C Z1 Z2 (Nat.zero_le _) (Nat.zero_le _) dL_conflicts_16 ⟨rfl, rfl⟩
theorem wx_conflicts (w : zW) (l : Launch) (h : zH) (a o : Nat) (x1 : Int) (hc : zCx w l yX7_conflicts cX7_conflicts 6 (some .int) 7 121 [.inr (7, a), .inl x1] h) : zCtW w l yL_conflicts cL_conflicts 4 [(0, 9, 12, 13)] 12 260 [.inr (7, a), .inl x1, .inr (21, o)] h (zFn (some (.inl 1)) h) := by
  refine zCtW.of (own := RL) (loc := [some (.inr (7, a)), some (.inl x1), some (.inr (21, o)), none]) (by decide) rfl (Nat.le_of_ble_eq_true rfl) (fun k v hk => ?_) ?_
  · exact zloc_ok 1 rfl hk
  intro p e s m args below meth c C Z1 Z2 Z3
  refine v_aload_n C dL_conflicts_0 rfl ?_
  refine v_iconst C dL_conflicts_1 rfl ?_
  refine v_aload_n C dL_conflicts_2 rfl ?_
  refine v_iload_n C dL_conflicts_3 rfl ?_
  exact v_xcatch (k := 1) (n1 := 9) (n2 := 12) C Z3 Z1 Z2 dL_conflicts_4 mvL_89 hc rfl ⟨by decide, by decide, by decide, by decide⟩ ⟨rfl, Nat.le_of_ble_eq_true rfl⟩ (by decide) (g := 1) (fun H locs ls q cs sl Q hl kk => lv_astore_n C.1 C.2.1 dL_conflicts_12 rfl hl (by decide) rfl fun ls9 hl9 => kk ls9 (zlo_sub hl9 fun _ hq => nomatch hq)) dL_conflicts_13 dL_conflicts_14 ⟨rfl, rfl⟩
theorem w_loadOf (w : zW) (l : Launch) (h : zH) (a o : Nat) (x1 : Int) (v : Int) (hq : q_X7_loadOf h a x1 = some v) : zCtW w l yL_loadOf cL_loadOf 4 [(0, 9, 12, 13)] 12 260 [.inr (7, a), .inl x1, .inr (21, o)] h (zFn (some (.inl 0)) (zput h o 0 v)) := by
  refine zCtW.of (own := RL) (loc := [some (.inr (7, a)), some (.inl x1), some (.inr (21, o)), none]) (by decide) rfl (Nat.le_of_ble_eq_true rfl) (fun k v hk => ?_) ?_
  · exact zloc_ok 1 rfl hk
  intro p e s m args below meth c C Z1 Z2 Z3
  refine v_aload_n C dL_loadOf_0 rfl ?_
  refine v_iconst C dL_loadOf_1 rfl ?_
  refine v_aload_n C dL_loadOf_2 rfl ?_
  refine v_iload_n C dL_loadOf_3 rfl ?_
  refine v_callV (k := 1) C dL_loadOf_4 mvL_92 (cq_X7_loadOf w l h a x1 v hq) rfl ⟨by decide, by decide⟩ ⟨Nat.zero_le _, Nat.zero_le _⟩ ⟨rfl, Nat.le_of_ble_eq_true rfl⟩ (fun r2 h2 q => ?_)
  rw [q.1, q.2]
  refine v_i2last C dL_loadOf_7 dL_loadOf_8 ?_
  refine v_goto C dL_loadOf_9 (tgt := 15) (by decide) ?_
  refine v_iconst C dL_loadOf_15 rfl ?_
  exact v_wret C Z1 Z2 (Nat.zero_le _) (Nat.zero_le _) dL_loadOf_16 ⟨rfl, rfl⟩
theorem wx_loadOf (w : zW) (l : Launch) (h : zH) (a o : Nat) (x1 : Int) (hc : zCx w l yX7_loadOf cX7_loadOf 5 (some .int) 7 121 [.inr (7, a), .inl x1] h) : zCtW w l yL_loadOf cL_loadOf 4 [(0, 9, 12, 13)] 12 260 [.inr (7, a), .inl x1, .inr (21, o)] h (zFn (some (.inl 1)) h) := by
  refine zCtW.of (own := RL) (loc := [some (.inr (7, a)), some (.inl x1), some (.inr (21, o)), none]) (by decide) rfl (Nat.le_of_ble_eq_true rfl) (fun k v hk => ?_) ?_
  · exact zloc_ok 1 rfl hk
  intro p e s m args below meth c C Z1 Z2 Z3
  refine v_aload_n C dL_loadOf_0 rfl ?_
  refine v_iconst C dL_loadOf_1 rfl ?_
  refine v_aload_n C dL_loadOf_2 rfl ?_
  refine v_iload_n C dL_loadOf_3 rfl ?_
  exact v_xcatch (k := 1) (n1 := 9) (n2 := 12) C Z3 Z1 Z2 dL_loadOf_4 mvL_92 hc rfl ⟨by decide, by decide, by decide, by decide⟩ ⟨rfl, Nat.le_of_ble_eq_true rfl⟩ (by decide) (g := 1) (fun H locs ls q cs sl Q hl kk => lv_astore_n C.1 C.2.1 dL_loadOf_12 rfl hl (by decide) rfl fun ls9 hl9 => kk ls9 (zlo_sub hl9 fun _ hq => nomatch hq)) dL_loadOf_13 dL_loadOf_14 ⟨rfl, rfl⟩
theorem w_errorAfter (w : zW) (l : Launch) (h : zH) (a o : Nat) (x1 x2 : Int) (v : Int) (h1 : zH) (hq : q_X7_errorAfter h a x1 x2 = some (v, h1)) : zCtW w l yL_errorAfter cL_errorAfter 5 [(0, 10, 13, 13)] 12 260 [.inr (7, a), .inl x1, .inl x2, .inr (21, o)] h (zFn (some (.inl 0)) (zput h1 o 0 v)) := by
  refine zCtW.of (own := RL) (loc := [some (.inr (7, a)), some (.inl x1), some (.inl x2), some (.inr (21, o)), none]) (by decide) rfl (Nat.le_of_ble_eq_true rfl) (fun k v hk => ?_) ?_
  · exact zloc_ok 1 rfl hk
  intro p e s m args below meth c C Z1 Z2 Z3
  refine v_aload_n C dL_errorAfter_0 rfl ?_
  refine v_iconst C dL_errorAfter_1 rfl ?_
  refine v_aload_n C dL_errorAfter_2 rfl ?_
  refine v_iload_n C dL_errorAfter_3 rfl ?_
  refine v_iload_n C dL_errorAfter_4 rfl ?_
  refine v_callV (k := 2) C dL_errorAfter_5 mvL_95 (cq_X7_errorAfter w l h a x1 x2 v h1 hq) rfl ⟨by decide, by decide⟩ ⟨Nat.zero_le _, Nat.zero_le _⟩ ⟨rfl, Nat.le_of_ble_eq_true rfl⟩ (fun r2 h2 q => ?_)
  rw [q.1, q.2]
  refine v_i2last C dL_errorAfter_8 dL_errorAfter_9 ?_
  refine v_goto C dL_errorAfter_10 (tgt := 17) (by decide) ?_
  refine v_iconst C dL_errorAfter_17 rfl ?_
  exact v_wret C Z1 Z2 (Nat.zero_le _) (Nat.zero_le _) dL_errorAfter_18 ⟨rfl, rfl⟩
theorem wx_errorAfter (w : zW) (l : Launch) (h : zH) (a o : Nat) (x1 x2 : Int) (hc : zCx w l yX7_errorAfter cX7_errorAfter 6 (some .int) 7 121 [.inr (7, a), .inl x1, .inl x2] h) : zCtW w l yL_errorAfter cL_errorAfter 5 [(0, 10, 13, 13)] 12 260 [.inr (7, a), .inl x1, .inl x2, .inr (21, o)] h (zFn (some (.inl 1)) h) := by
  refine zCtW.of (own := RL) (loc := [some (.inr (7, a)), some (.inl x1), some (.inl x2), some (.inr (21, o)), none]) (by decide) rfl (Nat.le_of_ble_eq_true rfl) (fun k v hk => ?_) ?_
  · exact zloc_ok 1 rfl hk
  intro p e s m args below meth c C Z1 Z2 Z3
  refine v_aload_n C dL_errorAfter_0 rfl ?_
  refine v_iconst C dL_errorAfter_1 rfl ?_
  refine v_aload_n C dL_errorAfter_2 rfl ?_
  refine v_iload_n C dL_errorAfter_3 rfl ?_
  refine v_iload_n C dL_errorAfter_4 rfl ?_
  exact v_xcatch (k := 2) (n1 := 10) (n2 := 13) C Z3 Z1 Z2 dL_errorAfter_5 mvL_95 hc rfl ⟨by decide, by decide, by decide, by decide⟩ ⟨rfl, Nat.le_of_ble_eq_true rfl⟩ (by decide) (g := 2) (fun H locs ls q cs sl Q hl kk => lv_astore C.1 C.2.1 dL_errorAfter_13 hl (by decide) rfl fun ls9 hl9 => kk ls9 (zlo_sub hl9 fun _ hq => nomatch hq)) dL_errorAfter_15 dL_errorAfter_16 ⟨rfl, rfl⟩
theorem w_powerAfter (w : zW) (l : Launch) (h : zH) (a o : Nat) (x1 x2 : Int) (v : Int) (hq : q_X7_powerAfter h a x1 x2 = some v) : zCtW w l yL_powerAfter cL_powerAfter 5 [(0, 10, 13, 13)] 12 260 [.inr (7, a), .inl x1, .inl x2, .inr (21, o)] h (zFn (some (.inl 0)) (zput h o 0 v)) := by
  refine zCtW.of (own := RL) (loc := [some (.inr (7, a)), some (.inl x1), some (.inl x2), some (.inr (21, o)), none]) (by decide) rfl (Nat.le_of_ble_eq_true rfl) (fun k v hk => ?_) ?_
  · exact zloc_ok 1 rfl hk
  intro p e s m args below meth c C Z1 Z2 Z3
  refine v_aload_n C dL_powerAfter_0 rfl ?_
  refine v_iconst C dL_powerAfter_1 rfl ?_
  refine v_aload_n C dL_powerAfter_2 rfl ?_
  refine v_iload_n C dL_powerAfter_3 rfl ?_
  refine v_iload_n C dL_powerAfter_4 rfl ?_
  refine v_callV (k := 2) C dL_powerAfter_5 mvL_98 (cq_X7_powerAfter w l h a x1 x2 v hq) rfl ⟨by decide, by decide⟩ ⟨Nat.zero_le _, Nat.zero_le _⟩ ⟨rfl, Nat.le_of_ble_eq_true rfl⟩ (fun r2 h2 q => ?_)
  rw [q.1, q.2]
  refine v_i2last C dL_powerAfter_8 dL_powerAfter_9 ?_
  refine v_goto C dL_powerAfter_10 (tgt := 17) (by decide) ?_
  refine v_iconst C dL_powerAfter_17 rfl ?_
  exact v_wret C Z1 Z2 (Nat.zero_le _) (Nat.zero_le _) dL_powerAfter_18 ⟨rfl, rfl⟩
theorem wx_powerAfter (w : zW) (l : Launch) (h : zH) (a o : Nat) (x1 x2 : Int) (hc : zCx w l yX7_powerAfter cX7_powerAfter 6 (some .int) 7 121 [.inr (7, a), .inl x1, .inl x2] h) : zCtW w l yL_powerAfter cL_powerAfter 5 [(0, 10, 13, 13)] 12 260 [.inr (7, a), .inl x1, .inl x2, .inr (21, o)] h (zFn (some (.inl 1)) h) := by
  refine zCtW.of (own := RL) (loc := [some (.inr (7, a)), some (.inl x1), some (.inl x2), some (.inr (21, o)), none]) (by decide) rfl (Nat.le_of_ble_eq_true rfl) (fun k v hk => ?_) ?_
  · exact zloc_ok 1 rfl hk
  intro p e s m args below meth c C Z1 Z2 Z3
  refine v_aload_n C dL_powerAfter_0 rfl ?_
  refine v_iconst C dL_powerAfter_1 rfl ?_
  refine v_aload_n C dL_powerAfter_2 rfl ?_
  refine v_iload_n C dL_powerAfter_3 rfl ?_
  refine v_iload_n C dL_powerAfter_4 rfl ?_
  exact v_xcatch (k := 2) (n1 := 10) (n2 := 13) C Z3 Z1 Z2 dL_powerAfter_5 mvL_98 hc rfl ⟨by decide, by decide, by decide, by decide⟩ ⟨rfl, Nat.le_of_ble_eq_true rfl⟩ (by decide) (g := 2) (fun H locs ls q cs sl Q hl kk => lv_astore C.1 C.2.1 dL_powerAfter_13 hl (by decide) rfl fun ls9 hl9 => kk ls9 (zlo_sub hl9 fun _ hq => nomatch hq)) dL_powerAfter_15 dL_powerAfter_16 ⟨rfl, rfl⟩
theorem w_framesInTime (w : zW) (l : Launch) (h : zH) (a o : Nat) (x1 : Int) (v : Int) (h1 : zH) (hq : q_X7_framesInTime h a x1 = some (v, h1)) : zCtW w l yL_framesInTime cL_framesInTime 4 [(0, 9, 12, 13)] 12 260 [.inr (7, a), .inl x1, .inr (21, o)] h (zFn (some (.inl 0)) (zput h1 o 0 v)) := by
  refine zCtW.of (own := RL) (loc := [some (.inr (7, a)), some (.inl x1), some (.inr (21, o)), none]) (by decide) rfl (Nat.le_of_ble_eq_true rfl) (fun k v hk => ?_) ?_
  · exact zloc_ok 1 rfl hk
  intro p e s m args below meth c C Z1 Z2 Z3
  refine v_aload_n C dL_framesInTime_0 rfl ?_
  refine v_iconst C dL_framesInTime_1 rfl ?_
  refine v_aload_n C dL_framesInTime_2 rfl ?_
  refine v_iload_n C dL_framesInTime_3 rfl ?_
  refine v_callV (k := 1) C dL_framesInTime_4 mvL_101 (cq_X7_framesInTime w l h a x1 v h1 hq) rfl ⟨by decide, by decide⟩ ⟨Nat.zero_le _, Nat.zero_le _⟩ ⟨rfl, Nat.le_of_ble_eq_true rfl⟩ (fun r2 h2 q => ?_)
  rw [q.1, q.2]
  refine v_i2last C dL_framesInTime_7 dL_framesInTime_8 ?_
  refine v_goto C dL_framesInTime_9 (tgt := 15) (by decide) ?_
  refine v_iconst C dL_framesInTime_15 rfl ?_
  exact v_wret C Z1 Z2 (Nat.zero_le _) (Nat.zero_le _) dL_framesInTime_16 ⟨rfl, rfl⟩
theorem wx_framesInTime (w : zW) (l : Launch) (h : zH) (a o : Nat) (x1 : Int) (hc : zCx w l yX7_framesInTime cX7_framesInTime 4 (some .int) 7 121 [.inr (7, a), .inl x1] h) : zCtW w l yL_framesInTime cL_framesInTime 4 [(0, 9, 12, 13)] 12 260 [.inr (7, a), .inl x1, .inr (21, o)] h (zFn (some (.inl 1)) h) := by
  refine zCtW.of (own := RL) (loc := [some (.inr (7, a)), some (.inl x1), some (.inr (21, o)), none]) (by decide) rfl (Nat.le_of_ble_eq_true rfl) (fun k v hk => ?_) ?_
  · exact zloc_ok 1 rfl hk
  intro p e s m args below meth c C Z1 Z2 Z3
  refine v_aload_n C dL_framesInTime_0 rfl ?_
  refine v_iconst C dL_framesInTime_1 rfl ?_
  refine v_aload_n C dL_framesInTime_2 rfl ?_
  refine v_iload_n C dL_framesInTime_3 rfl ?_
  exact v_xcatch (k := 1) (n1 := 9) (n2 := 12) C Z3 Z1 Z2 dL_framesInTime_4 mvL_101 hc rfl ⟨by decide, by decide, by decide, by decide⟩ ⟨rfl, Nat.le_of_ble_eq_true rfl⟩ (by decide) (g := 1) (fun H locs ls q cs sl Q hl kk => lv_astore_n C.1 C.2.1 dL_framesInTime_12 rfl hl (by decide) rfl fun ls9 hl9 => kk ls9 (zlo_sub hl9 fun _ hq => nomatch hq)) dL_framesInTime_13 dL_framesInTime_14 ⟨rfl, rfl⟩
theorem w_framesToWait (w : zW) (l : Launch) (h : zH) (a o : Nat) (x1 : Int) (v : Int) (h1 : zH) (hq : q_X7_framesToWait h a x1 = some (v, h1)) : zCtW w l yL_framesToWait cL_framesToWait 4 [(0, 9, 12, 13)] 12 260 [.inr (7, a), .inl x1, .inr (21, o)] h (zFn (some (.inl 0)) (zput h1 o 0 v)) := by
  refine zCtW.of (own := RL) (loc := [some (.inr (7, a)), some (.inl x1), some (.inr (21, o)), none]) (by decide) rfl (Nat.le_of_ble_eq_true rfl) (fun k v hk => ?_) ?_
  · exact zloc_ok 1 rfl hk
  intro p e s m args below meth c C Z1 Z2 Z3
  refine v_aload_n C dL_framesToWait_0 rfl ?_
  refine v_iconst C dL_framesToWait_1 rfl ?_
  refine v_aload_n C dL_framesToWait_2 rfl ?_
  refine v_iload_n C dL_framesToWait_3 rfl ?_
  refine v_callV (k := 1) C dL_framesToWait_4 mvL_104 (cq_X7_framesToWait w l h a x1 v h1 hq) rfl ⟨by decide, by decide⟩ ⟨Nat.zero_le _, Nat.zero_le _⟩ ⟨rfl, Nat.le_of_ble_eq_true rfl⟩ (fun r2 h2 q => ?_)
  rw [q.1, q.2]
  refine v_i2last C dL_framesToWait_7 dL_framesToWait_8 ?_
  refine v_goto C dL_framesToWait_9 (tgt := 15) (by decide) ?_
  refine v_iconst C dL_framesToWait_15 rfl ?_
  exact v_wret C Z1 Z2 (Nat.zero_le _) (Nat.zero_le _) dL_framesToWait_16 ⟨rfl, rfl⟩
theorem wx_framesToWait (w : zW) (l : Launch) (h : zH) (a o : Nat) (x1 : Int) (hc : zCx w l yX7_framesToWait cX7_framesToWait 3 (some .int) 7 121 [.inr (7, a), .inl x1] h) : zCtW w l yL_framesToWait cL_framesToWait 4 [(0, 9, 12, 13)] 12 260 [.inr (7, a), .inl x1, .inr (21, o)] h (zFn (some (.inl 1)) h) := by
  refine zCtW.of (own := RL) (loc := [some (.inr (7, a)), some (.inl x1), some (.inr (21, o)), none]) (by decide) rfl (Nat.le_of_ble_eq_true rfl) (fun k v hk => ?_) ?_
  · exact zloc_ok 1 rfl hk
  intro p e s m args below meth c C Z1 Z2 Z3
  refine v_aload_n C dL_framesToWait_0 rfl ?_
  refine v_iconst C dL_framesToWait_1 rfl ?_
  refine v_aload_n C dL_framesToWait_2 rfl ?_
  refine v_iload_n C dL_framesToWait_3 rfl ?_
  exact v_xcatch (k := 1) (n1 := 9) (n2 := 12) C Z3 Z1 Z2 dL_framesToWait_4 mvL_104 hc rfl ⟨by decide, by decide, by decide, by decide⟩ ⟨rfl, Nat.le_of_ble_eq_true rfl⟩ (by decide) (g := 1) (fun H locs ls q cs sl Q hl kk => lv_astore_n C.1 C.2.1 dL_framesToWait_12 rfl hl (by decide) rfl fun ls9 hl9 => kk ls9 (zlo_sub hl9 fun _ hq => nomatch hq)) dL_framesToWait_13 dL_framesToWait_14 ⟨rfl, rfl⟩
theorem w_priorityOf (w : zW) (l : Launch) (h : zH) (a o : Nat) (x1 : Int) (v : Int) (hq : q_X7_priorityOf h a x1 = some v) : zCtW w l yL_priorityOf cL_priorityOf 4 [(0, 9, 12, 13)] 12 260 [.inr (7, a), .inl x1, .inr (21, o)] h (zFn (some (.inl 0)) (zput h o 0 v)) := by
  refine zCtW.of (own := RL) (loc := [some (.inr (7, a)), some (.inl x1), some (.inr (21, o)), none]) (by decide) rfl (Nat.le_of_ble_eq_true rfl) (fun k v hk => ?_) ?_
  · exact zloc_ok 1 rfl hk
  intro p e s m args below meth c C Z1 Z2 Z3
  refine v_aload_n C dL_priorityOf_0 rfl ?_
  refine v_iconst C dL_priorityOf_1 rfl ?_
  refine v_aload_n C dL_priorityOf_2 rfl ?_
  refine v_iload_n C dL_priorityOf_3 rfl ?_
  refine v_callV (k := 1) C dL_priorityOf_4 mvL_107 (cq_X7_priorityOf w l h a x1 v hq) rfl ⟨by decide, by decide⟩ ⟨Nat.zero_le _, Nat.zero_le _⟩ ⟨rfl, Nat.le_of_ble_eq_true rfl⟩ (fun r2 h2 q => ?_)
  rw [q.1, q.2]
  refine v_i2last C dL_priorityOf_7 dL_priorityOf_8 ?_
  refine v_goto C dL_priorityOf_9 (tgt := 15) (by decide) ?_
  refine v_iconst C dL_priorityOf_15 rfl ?_
  exact v_wret C Z1 Z2 (Nat.zero_le _) (Nat.zero_le _) dL_priorityOf_16 ⟨rfl, rfl⟩
theorem wx_priorityOf (w : zW) (l : Launch) (h : zH) (a o : Nat) (x1 : Int) (hc : zCx w l yX7_priorityOf cX7_priorityOf 2 (some .int) 7 121 [.inr (7, a), .inl x1] h) : zCtW w l yL_priorityOf cL_priorityOf 4 [(0, 9, 12, 13)] 12 260 [.inr (7, a), .inl x1, .inr (21, o)] h (zFn (some (.inl 1)) h) := by
  refine zCtW.of (own := RL) (loc := [some (.inr (7, a)), some (.inl x1), some (.inr (21, o)), none]) (by decide) rfl (Nat.le_of_ble_eq_true rfl) (fun k v hk => ?_) ?_
  · exact zloc_ok 1 rfl hk
  intro p e s m args below meth c C Z1 Z2 Z3
  refine v_aload_n C dL_priorityOf_0 rfl ?_
  refine v_iconst C dL_priorityOf_1 rfl ?_
  refine v_aload_n C dL_priorityOf_2 rfl ?_
  refine v_iload_n C dL_priorityOf_3 rfl ?_
  exact v_xcatch (k := 1) (n1 := 9) (n2 := 12) C Z3 Z1 Z2 dL_priorityOf_4 mvL_107 hc rfl ⟨by decide, by decide, by decide, by decide⟩ ⟨rfl, Nat.le_of_ble_eq_true rfl⟩ (by decide) (g := 1) (fun H locs ls q cs sl Q hl kk => lv_astore_n C.1 C.2.1 dL_priorityOf_12 rfl hl (by decide) rfl fun ls9 hl9 => kk ls9 (zlo_sub hl9 fun _ hq => nomatch hq)) dL_priorityOf_13 dL_priorityOf_14 ⟨rfl, rfl⟩
