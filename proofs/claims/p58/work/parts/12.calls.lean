theorem zw_T_good : ∀ x ∈ zw_T, ((x.onTables && x.keeps) = true ∨ ∃ ty, x = .arrayClass ty) := fun x hx => good_of_word (List.mem_filter.mp hx).2
theorem lv_args_len (av : List zv) : (lg_sl (av.map zval)).length = av.length := by
  induction av with
  | nil => rfl
  | cons v t ih =>
    have h1 : lg_sl ((v :: t).map zval) = .val (zval v) :: lg_sl (t.map zval) := by cases v <;> rfl
    rw [h1, List.length_cons, ih, List.length_cons]
theorem zCt.of {w : zW} {l : Launch} {y : MethodName} {b : ByteArray} {n : Nat} {ret : Option FieldType} {fr lo : Nat} {av : List zv} {h : zH} {post : Option zv → zH → Prop} {own : String} {loc : List (Option zv)}
    (hy : plainName y.cls = true) (ho : y.cls = own) (hn : av.length ≤ n) (hloc : ∀ (k : Nat) (v : zv), loc[k]? = some (some v) → av[k]? = some v)
    (body : ∀ p e s m args below meth c, zC w p s m args c n b own → meth.sig.returnType = ret → meth.locks = false → (∀ v ∈ av, zok w v) → zV w p l e (zRm fr lo) s m args below meth c n 0 0 (MQ below (zQ w post) args s 0 0 (zA w)) 0 loc [] h) : zCt w l y b n ret fr lo av h post := by
  intro hok
  refine Met.ofW (cc := b) (maxL := n) (ret := ret) hy rfl ?_
  intro p e s m args below meth c s₁ B hml hv
  obtain ⟨rfl, hK, hR⟩ := hv
  have hts := atoms_spec (ws := Cond.code y b n ret :: zw_T) B.pre
  have hown : s.vm.findClass own = some m.cls := by rw [← ho]; exact findClass_of_methodNamed B.named
  have C : zC w p s m (av.map zval).toArray c n b own := ⟨B.exec, B.bytes, hml, hown, fun x hx => hts x (List.mem_cons_of_mem _ hx), hK⟩
  have hlen : (lg_sl (av.map zval)).length ≤ n := by rw [lv_args_len]; exact hn
  have hl := lv_entry (av.map zval) (n := n) hlen
  rw [lg_entry_eq]
  generalize (lg_sl (av.map zval) ++ List.replicate (n - (lg_sl (av.map zval)).length) Slot.unset).toArray = ls at hl ⊢
  rw [zlo_args] at hl
  have hav : ∀ (k : Nat) (v : zv), loc[k]? = some (some v) → (av.map some)[k]? = some (some v) := fun k v hk => by rw [List.getElem?_map, hloc k v hk]; rfl
  refine body p e s m _ below meth c C B.returns B.notSynchronized hok s.heap [] ls hR va_S.rf (zlo_sub hl fun q hq => ?_) (fun v hv => by cases hv) (fun v hv => ?_)
  · obtain ⟨k, v, h1, h2⟩ := zlo_mem.mp hq
    exact zlo_mem.mpr ⟨k, v, hav k v h1, h2⟩
  · obtain ⟨k, hk2⟩ := List.getElem?_of_mem hv
    exact hok v (List.mem_of_getElem? (hloc k v hk2))
section ZV3
variable {w : zW} {p : Program} {l : Launch} {e : Env} {R : Room} {s : State} {m : MethodId} {args : Array Value} {below : List Frame} {meth : Method} {c : Code} {nL cells slots : Nat} {Q : State → Prop}
variable {cc : ByteArray} {own : String} {pc : Nat} {loc : List (Option zv)} {stk : List zv} {h : zH}

def zpush : Option zv → List zv → List zv
  | none, s => s
  | some v, s => v :: s
theorem zpush_map (r : Option zv) (s : List zv) : (zpush r s).map zval = (r.map zval).toList ++ s.map zval := by cases r <;> rfl
theorem v_ofRun {post : Option zv → zH → Prop} {rest : List zv} {a : Array Value}
    (hr : ∀ (H : Heap) (locs : List Loc) (ls : Array Slot), zRel w h H → va_S (zA w) s.heap H locs → lv_has ls nL (zlo 0 loc) → (∀ v ∈ stk, zok w v) → va_Run p l e R s m args below meth c H locs cells slots 0 0 (F0 m pc ls (stk.map zval)) (rest.map zval) (zQ w post a) (zA w))
    (hrest : ∀ v ∈ rest, v ∈ stk)
    (kk : ∀ (r : Option zv) (h1 : zH), post r h1 → zV w p l e R s m args below meth c nL cells slots Q (pc + 3) loc (zpush r rest) h1) : zV w p l e R s m args below meth c nL cells slots Q pc loc stk h := by
  intro H locs ls hR hS hl hk ho T hT X
  obtain ⟨v, st₀, t, T', L, h0, X', hL, e1, e2, ⟨⟨r, h1, hv, hp, hR1, hok⟩, hz, hkeep⟩, st⟩ := hr H locs ls hR hS hl hk T hT X
  have hv' : v = r.map zval := by cases hv; rfl
  subst hv'
  rw [h0] at hz hkeep
  obtain ⟨t2, a1, b1⟩ := kk r h1 hp T'.heap (locs ++ L) ls (by rw [e1]; exact hR1)
    ⟨Nat.le_trans hS.1 (by rw [e1]; exact hz), fun q h1 h2 => by rw [e1, hkeep q (Nat.lt_of_lt_of_le h1 hS.1) h2]; exact hS.2.1 q h1 h2, fun q hq => by
      rcases List.mem_append.mp hq with h | h
      · exact hS.2.2 q h
      · exact hL q h⟩ hl (fun u hu => by
        cases r with
        | none => exact hk u (hrest u hu)
        | some v =>
          rcases List.mem_cons.mp hu with rfl | hu
          · exact hok _ rfl
          · exact hk u (hrest u hu)) ho T' rfl X'
  rw [zpush_map] at a1
  exact ⟨t2, st t2 a1, b1⟩
theorem zsum_len (s : List zv) : ((s.map zval).map fun v => v.category).sum = s.length := by
  induction s with
  | nil => rfl
  | cons v t ih => simp only [List.map_cons, List.sum_cons, zval_cat, ih, List.length_cons]; omega
theorem zPre_blind {av : List Value} : FrameBlind (va_Pc av (zPre w h)) := fun a U g mk q => ⟨q.1, zKn.same rfl rfl q.2.1, q.2.2⟩
theorem zw_good_ws {y : MethodName} {b : ByteArray} {n : Nat} {ret : Option FieldType} (hm : Cond.code y b n ret ∈ zw_T) : GoodIn zw_T (Cond.code y b n ret :: zw_T) := fun x hx => by
  rcases List.mem_cons.mp hx with rfl | hx
  · exact ⟨hm, zw_T_good _ hm⟩
  · exact ⟨hx, zw_T_good _ hx⟩
theorem v_callV (C : zC w p s m args c nL cc own) {idx ci a n k fr lo : Nat} {y : MethodName} {b : ByteArray} {ret : Option FieldType} {As rest : List zv} {post : Option zv → zH → Prop} (hd : decode cc pc = .ok (.invokevirtual idx, 3)) (hm : zMV own idx ci y b n ret k)
    (hc : zCt w l y b n ret fr lo (.inr (ci, a) :: As) h post) (hs : stk = As.reverse ++ .inr (ci, a) :: rest) (hR : fr + 1 ≤ R.frames ∧ 8 + (n + 11) + lo ≤ R.locals) (hcs : cells ≤ R.cells ∧ slots ≤ R.slots) (hk8 : As.length = k ∧ rest.length ≤ 8)
    (kk : ∀ (r : Option zv) (h1 : zH), post r h1 → zV w p l e R s m args below meth c nL cells slots Q (pc + 3) loc (zpush r rest) h1) : zV w p l e R s m args below meth c nL cells slots Q pc loc stk h := by
  obtain ⟨hx, hb, hml, hown, hts, hK⟩ := C
  obtain ⟨m0, ⟨q, m1, m1'⟩, m2, m3, m4, m5, m6, m7, m8⟩ := hm
  refine v_ofRun (a := (Value.ref a :: As.map zval).toArray) (rest := rest) (post := post) ?_ (fun v hv => by rw [hs]; exact List.mem_append_right _ (List.mem_cons_of_mem _ hv)) kk
  intro H locs ls hR1 hS hl hk
  have hka : zwK w a = ci + 1 := hk (.inr (ci, a)) (by rw [hs]; exact List.mem_append_right _ List.mem_cons_self)
  obtain ⟨i, hi⟩ := hR1.get hka (by omega)
  rw [zE_obj hka m0] at hi
  have hM := hc (fun v hv => by
    rcases List.mem_cons.mp hv with rfl | hv
    · exact hka
    · exact hk v (by rw [hs]; exact List.mem_append_left _ (List.mem_reverse.mpr hv)))
  have hcall : CallW R s args own y.cls idx y b n ret (Cond.code y b n ret :: zw_T) (zRm fr lo) 0 0 k :=
    ⟨callB_of k hts (zw_good_ws m6) rfl rfl rfl (hts _ m5) (hts _ m2) ⟨m7.1, m7.2, m8⟩ hR, hts _ m3, hts _ m4⟩
  have hrun := va_runV (p := p) (l := l) (e := e) (R := R) (below := below) (meth := meth) (H := H) (locs := locs) (cells := cells) (slots := slots) (b := a) (As := As.map zval) (rest := rest.map zval) (g := F0 m pc ls (stk.map zval)) (C := y.cls) ⟨hx, hb, hml, hown, hts⟩ hM hcall
    ⟨zPre_blind, by have := va_recv hK.1 hR1.1 m1 hi; rwa [m1'] at this, fun U hU hW => ⟨rfl, zKn.warm hW hS hU hK, by rw [hU]; exact hR1⟩⟩ rfl (by rw [List.length_map]; exact hk8.1) hl.1 (by
      show stk.map zval = _
      rw [hs, List.map_append, List.map_reverse]
      rfl) (lv_room (by rw [zsum_len]; exact hk8.2)) hd ⟨by simpa using hcs.1, by simpa using hcs.2⟩
  exact hrun
theorem v_callS (C : zC w p s m args c nL cc own) {idx n k fr lo : Nat} {y : MethodName} {b : ByteArray} {ret : Option FieldType} {As rest : List zv} {post : Option zv → zH → Prop} (hd : decode cc pc = .ok (.invokestatic idx, 3)) (hm : zMS own idx y b n ret k)
    (hc : zCt w l y b n ret fr lo As h post) (hs : stk = As.reverse ++ rest) (hR : fr + 1 ≤ R.frames ∧ 8 + (n + 11) + lo ≤ R.locals) (hcs : cells ≤ R.cells ∧ slots ≤ R.slots) (hk8 : As.length = k ∧ rest.length ≤ 8)
    (kk : ∀ (r : Option zv) (h1 : zH), post r h1 → zV w p l e R s m args below meth c nL cells slots Q (pc + 3) loc (zpush r rest) h1) : zV w p l e R s m args below meth c nL cells slots Q pc loc stk h := by
  obtain ⟨hx, hb, hml, hown, hts, hK⟩ := C
  obtain ⟨m2, m3, m5, m6, m7, m8⟩ := hm
  refine v_ofRun (a := (As.map zval).toArray) (rest := rest) (post := post) ?_ (fun v hv => by rw [hs]; exact List.mem_append_right _ hv) kk
  intro H locs ls hR1 hS hl hk
  have hM := hc (fun v hv => hk v (by rw [hs]; exact List.mem_append_left _ (List.mem_reverse.mpr hv)))
  have hcall : CallB R s args own idx y b n ret (Cond.code y b n ret :: zw_T) (zRm fr lo) 0 0 k ∧ (Cond.static y).before args s = true :=
    ⟨callB_of k hts (zw_good_ws m6) rfl rfl rfl (hts _ m5) (hts _ m2) ⟨m7.1, m7.2, m8⟩ hR, hts _ m3⟩
  exact va_runS (p := p) (l := l) (e := e) (R := R) (below := below) (meth := meth) (H := H) (locs := locs) (cells := cells) (slots := slots) (As := As.map zval) (rest := rest.map zval) (g := F0 m pc ls (stk.map zval)) ⟨hx, hb, hml, hown, hts⟩ hM hcall
    ⟨zPre_blind, fun U hU hW => ⟨rfl, zKn.warm hW hS hU hK, by rw [hU]; exact hR1⟩⟩ rfl (by rw [List.length_map]; exact hk8.1) hl.1 (by
      show stk.map zval = _
      rw [hs, List.map_append, List.map_reverse]) (lv_room (by rw [zsum_len]; exact hk8.2)) hd ⟨by simpa using hcs.1, by simpa using hcs.2⟩
theorem v_callN (C : zC w p s m args c nL cc own) {idx n k fr lo : Nat} {y : MethodName} {host : String} {b : ByteArray} {ret : Option FieldType} {As rest : List zv} {post : Option zv → zH → Prop} (hd : decode cc pc = .ok (.invokestatic idx, 3)) (hm : zMN own idx y host b n ret k)
    (hc : zCt w l y b n ret fr lo As h post) (hs : stk = As.reverse ++ rest) (hR : fr + 1 ≤ R.frames ∧ 8 + (n + 11) + lo ≤ R.locals) (hcs : cells ≤ R.cells ∧ slots ≤ R.slots) (hk8 : As.length = k ∧ rest.length ≤ 8)
    (kk : ∀ (r : Option zv) (h1 : zH), post r h1 → zV w p l e R s m args below meth c nL cells slots Q (pc + 3) loc (zpush r rest) h1) : zV w p l e R s m args below meth c nL cells slots Q pc loc stk h := by
  obtain ⟨hx, hb, hml, hown, hts, hK⟩ := C
  obtain ⟨m2, m3, m5, m6, m7, m8⟩ := hm
  refine v_ofRun (a := (As.map zval).toArray) (rest := rest) (post := post) ?_ (fun v hv => by rw [hs]; exact List.mem_append_right _ hv) kk
  intro H locs ls hR1 hS hl hk
  have hM := hc (fun v hv => hk v (by rw [hs]; exact List.mem_append_left _ (List.mem_reverse.mpr hv)))
  have hcall := va_cnB (R := R) (args := args) (mc := 0) (ms := 0) (rm := zRm fr lo) (ws := Cond.code y b n ret :: zw_T) k hts (zw_good_ws m6) rfl rfl rfl (hK.2.1.1 _ m2) (hts _ m5) ⟨m7.1, m7.2, m8⟩ hR
  exact va_runSN (p := p) (l := l) (e := e) (R := R) (below := below) (meth := meth) (H := H) (locs := locs) (cells := cells) (slots := slots) (As := As.map zval) (rest := rest.map zval) (g := F0 m pc ls (stk.map zval)) ⟨hx, hb, hml, hown, hts⟩ hM ⟨hcall, hts _ m3, trivial⟩
    ⟨zPre_blind, fun U hU hW => ⟨rfl, zKn.warm hW hS hU hK, by rw [hU]; exact hR1⟩⟩ rfl (by rw [List.length_map]; exact hk8.1) hl.1 (by
      show stk.map zval = _
      rw [hs, List.map_append, List.map_reverse]) (lv_room (by rw [zsum_len]; exact hk8.2)) hd ⟨by simpa using hcs.1, by simpa using hcs.2⟩
end ZV3
