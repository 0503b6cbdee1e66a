/-! More rows: the text's own methods, new objects, tables of digits, a null among the arguments. -/
def yStab (G : Heap → Prop) : Prop := ∀ H H1 : Heap, G H → H.size ≤ H1.size → (∀ q, q < H.size → H1[q]? = H[q]?) → G H1
theorem yL_stab {w : zW} {ws : va_W} : yStab (yL w ws) := fun H H1 h hz hq => ⟨h.1.kept fun k q hk => hq q.1 ((h.1 k q hk).lt), h.2⟩
abbrev yF : Nat → Prop := fun _ => False
section YM
variable {w wc : zW} {p : Program} {l : Launch} {e : Env} {R : Room} {s : State} {m : MethodId} {args : Array Value} {below : List Frame} {meth : Method} {c : Code} {nL cells slots : Nat} {Q : State → Prop}
variable {cc : ByteArray} {own : String} {pc : Nat} {loc : List (Option zv)} {stk : List zv} {G Gc : Heap → Prop} {ws : va_W}
theorem y_svalT (C : zC w p s m args c nL cc own) {idx : Nat} (hd : decode cc pc = .ok (.getfield idx, 3)) (hm : Cond.fieldLink own idx "java/lang/String" "value" "[B" ∈ zw_T)
    (kk : yS w p l e R s m args below meth c nL cells slots Q (pc + 3) loc (.inr (30, zwS w 71) :: stk) G) : yS w p l e R s m args below meth c nL cells slots Q pc loc (.inr (30, zwS w 31) :: stk) G := by
  intro H locs ls hR hS hl hk ho
  obtain ⟨hx, hb, hml, hown, hts, hK⟩ := C
  exact vk_getf hx hb (hK.2.2.1.2.2.2.2.2.2.2.2.2.1.2.1 0 Nat.zero_lt_one).2.2.1 hS hown (hts _ hm) (fun _ h9 => h9) hd (kk H locs ls hR hS hl (yok_cons (v := .inr (30, zwS w 71)) trivial (yok_tl hk)) ho)
theorem y_blenT (C : zC w p s m args c nL cc own) (hd : decode cc pc = .ok (.arraylength, 1))
    (kk : yS w p l e R s m args below meth c nL cells slots Q (pc + 1) loc (.inl (((zwTl w).length : Nat) : Int) :: stk) G) : yS w p l e R s m args below meth c nL cells slots Q pc loc (.inr (30, zwS w 71) :: stk) G := by
  have hT := zTk C
  intro H locs ls hR hS hl hk ho
  obtain ⟨hx, hb, hml, hown, hts, hK⟩ := C
  have e1 : Int32.ofNat ((zwTl w).length) = zi (((zwTl w).length : Nat) : Int) := rfl
  exact va_tlen hx hb (hK.2.2.1.2.2.2.2.2.2.2.2.2.1.2.1 0 Nat.zero_lt_one).2.2.2 hS e1 hd (kk H locs ls hR hS hl (yok_cons (v := .inl (((zwTl w).length : Nat) : Int)) (tl_R hT) (yok_tl hk)) ho)
/-- a method that changes nothing, and answers v -/
theorem y_pure {v : zv} {rest : List zv} {a : Array Value}
    (hr : ∀ (H : Heap) (locs : List Loc) (ls : Array Slot), G H → va_S (zA w) s.heap H locs → lv_has ls nL (zlo 0 loc) → (∀ v ∈ stk, yok v) → va_Run p l e R s m args below meth c H locs cells slots 0 0 (F0 m pc ls (stk.map zval)) (rest.map zval) (zQ (zPu wc yF) (zFn (some v) zH0) a) (zA (zPu wc yF)))
    (hv : yok v) (hG : yStab G) (hrest : ∀ v ∈ rest, v ∈ stk)
    (kk : yS w p l e R s m args below meth c nL cells slots Q (pc + 3) loc (v :: rest) G) : yS w p l e R s m args below meth c nL cells slots Q pc loc stk G := by
  intro H locs ls hR hS hl hk ho T hT X
  obtain ⟨v9, st₀, t, T', L, h0, X', hL, e1, e2, ⟨⟨r, h1, hv9, ⟨hr1, -⟩, -, -⟩, hz, hkeep⟩, st⟩ := hr H locs ls hR hS hl hk T hT X
  cases hv9
  subst hr1
  rw [h0] at hz hkeep
  have hkp : ∀ q, q < H.size → T'.heap[q]? = H[q]? := fun q hq => by rw [e1]; exact hkeep q hq (fun z => z.2)
  obtain ⟨t2, a1, b1⟩ := kk T'.heap (locs ++ L) ls (hG H _ hR (by rw [e1]; exact hz) hkp)
    ⟨Nat.le_trans hS.1 (by rw [e1]; exact hz), fun q h1 h2 => by rw [hkp q (Nat.lt_of_lt_of_le h1 hS.1)]; exact hS.2.1 q h1 h2, fun q hq => by
      rcases List.mem_append.mp hq with h | h
      · exact hS.2.2 q h
      · exact absurd (hL q h).2 id⟩ hl (yok_cons hv fun u hu => hk u (hrest u hu)) ho T' rfl X'
  exact ⟨t2, st t2 a1, b1⟩
/-- what the callee asks of a state, when it may write nothing -/
theorem y_preF (C : zC w p s m args c nL cc own) (hX : yX w s s.heap) {H : Heap} {locs : List Loc} (hS : va_S (zA w) s.heap H locs) : ∀ U : State, U.heap = H → s.WarmedH U.vm → zPre (zPu w yF) zH0 U := fun U hU hW =>
  ⟨(zPu_Kn (fun _ h => absurd h id) (yKn.warm hW hS hU ⟨C.2.2.2.2.2, hX⟩)).1, zPu_rel⟩
/-- a pure method of the text's -/
theorem y_pureT (C : zC w p s m args c nL cc own) (hX : yX w s s.heap) {idx n k fr lo : Nat} {y : MethodName} {b : ByteArray} {ret : Option FieldType} {As rest : List zv} {v : zv} (hd : decode cc pc = .ok (.invokevirtual idx, 3)) (hm : zMT own idx y b n ret k)
    (hc : zCt (zPu w yF) l y b n ret fr lo (.inr (30, zwS w 31) :: As) zH0 (zFn (some v) zH0)) (hAs : ∀ u ∈ As, ∃ x, u = .inl x) (hs : stk = As.reverse ++ .inr (30, zwS w 31) :: rest) (hR : fr + 1 ≤ R.frames ∧ 8 + (n + 11) + lo ≤ R.locals) (hcs : cells ≤ R.cells ∧ slots ≤ R.slots) (hk8 : As.length = k ∧ rest.length ≤ 8) (hv : yok v) (hG : yStab G)
    (kk : yS w p l e R s m args below meth c nL cells slots Q (pc + 3) loc (v :: rest) G) : yS w p l e R s m args below meth c nL cells slots Q pc loc stk G := by
  have C0 := C
  obtain ⟨hx, hb, hml, hown, hts, hK⟩ := C
  obtain ⟨m0, m2, m3, m4, m5, m6, m7, m8⟩ := hm
  refine y_pure (wc := w) (a := (Value.ref (zwS w 31) :: As.map zval).toArray) (rest := rest) (v := v) ?_ hv hG (fun u hu => by rw [hs]; exact List.mem_append_right _ (List.mem_cons_of_mem _ hu)) kk
  intro H locs ls hR1 hS hl hk
  have hka : zwK (zPu w yF) (zwS w 31) = 30 + 1 := if_pos hK.2.2.1.2.2.2.2.2.2.2.2.2.1.1.1
  have hM := hc (fun u hu => by
    rcases List.mem_cons.mp hu with rfl | hu
    · exact hka
    · obtain ⟨x, rfl⟩ := hAs u hu
      exact hk _ (by rw [hs]; exact List.mem_append_left _ (List.mem_reverse.mpr hu)))
  have hcall : CallW R s args own y.cls idx y b n ret (Cond.code y b n ret :: zw_T) (zRm fr lo) 0 0 k :=
    ⟨callB_of k hts (zw_good_ws m6) rfl rfl rfl (hts _ m5) (hts _ m2) ⟨m7.1, m7.2, m8⟩ hR, hts _ m3, hts _ m4⟩
  exact va_runV (p := p) (l := l) (e := e) (R := R) (below := below) (meth := meth) (H := H) (locs := locs) (cells := cells) (slots := slots) (b := zwS w 31) (As := As.map zval) (rest := rest.map zval) (g := F0 m pc ls (stk.map zval)) (C := y.cls) ⟨hx, hb, hml, hown, hts⟩ hM hcall
    ⟨zPre_blind, by have := vk_recv hK.2.2.1.2.2.2.2.2.2.2.2.2.1.2 Nat.zero_lt_one hS; rwa [← m0] at this, fun U hU hW => ⟨rfl, y_preF C0 hX hS U hU hW⟩⟩ rfl (by rw [List.length_map]; exact hk8.1) hl.1 (by
      show stk.map zval = _
      rw [hs, List.map_append, List.map_reverse]
      rfl) (lv_room (by rw [zsum_len]; exact hk8.2)) hd ⟨by simpa using hcs.1, by simpa using hcs.2⟩
/-- a pure static method -/
theorem y_pureS (C : zC w p s m args c nL cc own) (hX : yX w s s.heap) {idx n k fr lo : Nat} {y : MethodName} {b : ByteArray} {ret : Option FieldType} {As rest : List zv} {v : zv} (hd : decode cc pc = .ok (.invokestatic idx, 3)) (hm : zMS own idx y b n ret k)
    (hc : zCt (zPu w yF) l y b n ret fr lo As zH0 (zFn (some v) zH0)) (hAs : ∀ u ∈ As, (∃ x, u = .inl x) ∨ ∃ q, u = .inr q ∧ zwK w q.2 = 31 ∧ q.1 = 30) (hs : stk = As.reverse ++ rest) (hR : fr + 1 ≤ R.frames ∧ 8 + (n + 11) + lo ≤ R.locals) (hcs : cells ≤ R.cells ∧ slots ≤ R.slots) (hk8 : As.length = k ∧ rest.length ≤ 8) (hv : yok v) (hG : yStab G)
    (kk : yS w p l e R s m args below meth c nL cells slots Q (pc + 3) loc (v :: rest) G) : yS w p l e R s m args below meth c nL cells slots Q pc loc stk G := by
  have C0 := C
  obtain ⟨hx, hb, hml, hown, hts, hK⟩ := C
  obtain ⟨m2, m3, m5, m6, m7, m8⟩ := hm
  refine y_pure (wc := w) (a := (As.map zval).toArray) (rest := rest) (v := v) ?_ hv hG (fun u hu => by rw [hs]; exact List.mem_append_right _ hu) kk
  intro H locs ls hR1 hS hl hk
  have hM := hc (fun u hu => by
    rcases hAs u hu with ⟨x, rfl⟩ | ⟨q, rfl, h1, h2⟩
    · exact hk _ (by rw [hs]; exact List.mem_append_left _ (List.mem_reverse.mpr hu))
    · show zwK (zPu w yF) q.2 = q.1 + 1
      rw [h2]
      exact if_pos h1)
  have hcall : CallB R s args own idx y b n ret (Cond.code y b n ret :: zw_T) (zRm fr lo) 0 0 k ∧ (Cond.static y).before args s = true :=
    ⟨callB_of k hts (zw_good_ws m6) rfl rfl rfl (hts _ m5) (hts _ m2) ⟨m7.1, m7.2, m8⟩ hR, hts _ m3⟩
  exact va_runS (p := p) (l := l) (e := e) (R := R) (below := below) (meth := meth) (H := H) (locs := locs) (cells := cells) (slots := slots) (As := As.map zval) (rest := rest.map zval) (g := F0 m pc ls (stk.map zval)) ⟨hx, hb, hml, hown, hts⟩ hM hcall
    ⟨zPre_blind, fun U hU hW => ⟨rfl, y_preF C0 hX hS U hU hW⟩⟩ rfl (by rw [List.length_map]; exact hk8.1) hl.1 (by
      show stk.map zval = _
      rw [hs, List.map_append, List.map_reverse]) (lv_room (by rw [zsum_len]; exact hk8.2)) hd ⟨by simpa using hcs.1, by simpa using hcs.2⟩
theorem y_new (C : zC w p s m args c nL cc own) (hA : ∀ q, s.heap.size ≤ q → zA w q) {idx ci N : Nat} {Cn : String} {T : u_T} {ty0 : Nat → FieldType} {fs : List Value} (hc : vwCl[ci]? = some (Cn, T, N)) (hin : ∀ x ∈ u_ws Cn T N, x ∈ zw_T) (hty : ∀ k, k < N → parseFieldDescriptor (T k).2.2.1 = some (ty0 k)) (hfs : ∀ j, j < N → defaultValue (ty0 j) = vp_V fs j)
    (hcl : Cond.classLink own idx Cn ∈ zw_T) (hinst : Cond.instantiable Cn N ∈ zw_T) (hini : Cond.initialized Cn ∈ zw_T) (hcs : cells + 1 ≤ R.cells ∧ slots + N ≤ R.slots) (hd : decode cc pc = .ok (.new idx, 3))
    (kk : ∀ q : Nat, yS w p l e R s m args below meth c nL (cells + 1) (slots + N) Q (pc + 3) loc (.inr (ci, q) :: stk) (yL w (ws ++ [(q, .inr (ci, fs))]))) : yS w p l e R s m args below meth c nL cells slots Q pc loc stk (yL w ws) := by
  intro H locs ls hR hS hl hk ho
  obtain ⟨hx, hb, hml, hown, hts, hK⟩ := C
  exact va_new hx hb hts hin ty0 hty hown (hts _ hcl) (hts _ hinst) (hts _ hini) hK.1 hR.1 hR.2 hS hA hc hfs hcs.1 hcs.2 hd fun q H1 p1 p2 p3 => kk q H1 locs ls ⟨p1, p2⟩ p3 hl (yok_cons (v := .inr (ci, q)) trivial hk) ho
theorem y_objInit (C : zC w p s m args c nL cc own) {idx k x : Nat} (hl9 : Cond.methodLink own idx objectInit ∈ zw_T) (hd : decode cc pc = .ok (.invokespecial idx, 3)) (hR : 1 ≤ R.frames ∧ stk.length + 12 ≤ R.locals)
    (kk : yS w p l e R s m args below meth c nL cells slots Q (pc + 3) loc stk G) : yS w p l e R s m args below meth c nL cells slots Q pc loc (.inr (k, x) :: stk) G := by
  intro H locs ls h1 h2 h3 hk ho
  obtain ⟨hx, hb, hml, hown, hts, hK⟩ := C
  exact W.objInit hx hb hown (hts _ hl9) (hts _ zi_oI) (hts _ zi_oC) rfl (by rw [hml]; exact h3.1) rfl hd hR.1 (by
    show 2 * 0 + ((stk.map zval).map fun v => v.category).sum + 12 ≤ _
    rw [zsum_len]
    omega) (kk H locs ls h1 h2 h3 (yok_tl hk) ho)
/-- the tables of digits: k 0 the ones, 1 the tens -/
def yDg (k : Nat) : String := if k = 0 then "DigitOnes" else "DigitTens"
theorem yX_dg {H : Heap} {U : State} (h : yX w U H) {k : Nat} (hk : k < 2) : va_Z "java/lang/Integer" (yDg k) "[B" (.ref (zwS w (120 + k))) (zA w) U H ∧ va_T .byte (zwS w (120 + k)) 100 (fun j => .int (zi (((if k = 0 then j % 10 else j / 10 : Nat) : Int) + 48))) (zA w) U H := by
  match k, hk with
  | 0, _ => exact h.2.2.1
  | 1, _ => exact h.2.2.2
theorem y_gstD (C : zC w p s m args c nL cc own) (hX : yX w s s.heap) {idx k : Nat} (hk2 : k < 2) (hd : decode cc pc = .ok (.getstatic idx, 3)) (hm : Cond.fieldLink own idx "java/lang/Integer" (yDg k) "[B" ∈ zw_T)
    (kk : yS w p l e R s m args below meth c nL cells slots Q (pc + 3) loc (.inr (14, zwS w (120 + k)) :: stk) G) : yS w p l e R s m args below meth c nL cells slots Q pc loc stk G := by
  intro H locs ls hR hS hl hk ho
  obtain ⟨hx, hb, hml, hown, hts, hK⟩ := C
  exact va_gets hx hb (yX_dg hX hk2).1 hS hown (hts _ hm) (fun _ h9 => h9) hd (kk H locs ls hR hS hl (yok_cons (v := .inr (14, zwS w (120 + k))) trivial hk) ho)
theorem y_baldD (C : zC w p s m args c nL cc own) (hX : yX w s s.heap) {k j : Nat} (hk2 : k < 2) (hj : j < 100) {y : Int} (hy : y = (j : Int)) (hd : decode cc pc = .ok (.baload, 1))
    (kk : yS w p l e R s m args below meth c nL cells slots Q (pc + 1) loc (.inl (((if k = 0 then j % 10 else j / 10 : Nat) : Int) + 48) :: stk) G) : yS w p l e R s m args below meth c nL cells slots Q pc loc (.inl y :: .inr (14, zwS w (120 + k)) :: stk) G := by
  subst hy
  intro H locs ls hR hS hl hk ho
  obtain ⟨hx, hb, hml, hown, hts, hK⟩ := C
  have hjr : zR (j : Int) := ⟨by omega, by omega⟩
  have e1 : (zi (j : Int)).toNatClampNeg = j := by rw [zi_nat hjr]; exact Int.toNat_natCast _
  refine va_tb hx hb (yX_dg hX hk2).2 hS (zi_in hjr (by omega) (by omega)) rfl hd ?_
  rw [e1]
  refine kk H locs ls hR hS hl (yok_cons (v := .inl (((if k = 0 then j % 10 else j / 10 : Nat) : Int) + 48)) ?_ (yok_tl (yok_tl hk))) ho
  have : (if k = 0 then j % 10 else j / 10 : Nat) < 100 := by split <;> omega
  exact ⟨by omega, by omega⟩
end YM
theorem zshl_0 {x : Int} (hx : zR x) : zshl x 0 = x := by
  unfold zshl
  rw [show (zi 0 &&& 31) = 0 by decide, Int32.shiftLeft_zero, zi_toInt hx]
theorem zi2b_s {x : Int} (h : 0 ≤ x ∧ x < 128) : zi2b x = x := by
  obtain ⟨q, rfl⟩ : ∃ q : Nat, x = (q : Int) := ⟨x.toNat, by omega⟩
  exact (by decide +kernel : ∀ q : Fin 128, zi2b ((q : Nat) : Int) = ((q : Nat) : Int)) ⟨q, by omega⟩
