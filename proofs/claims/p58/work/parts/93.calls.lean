/-! Calls of methods whose contract tells of cells. -/
/-- a method of AbstractStringBuilder's, called on a StringBuilder -/
def yMU (own : String) (idx : Nat) (y : MethodName) (b : ByteArray) (n : Nat) (ret : Option FieldType) (k : Nat) : Prop :=
  Cond.methodLink own idx y ∈ zw_T ∧ Cond.sameMethod y.cls y.cls y.name y.desc ∈ zw_T ∧ (y ∈ yPr ∨ Cond.selects RJ4 y y ∈ zw_T) ∧ Cond.instanceMethod y ∈ zw_T ∧ Cond.initialized y.cls ∈ zw_T ∧ Cond.code y b n ret ∈ zw_T ∧ (y.cls ≠ "java/lang/invoke/MethodHandle" ∧ y.cls ≠ "java/lang/invoke/VarHandle") ∧ (parseMethodDescriptor y.desc).map (fun d => d.parameters.length) = some k
def yMSU (own : String) (idx : Nat) (y : MethodName) (b : ByteArray) (n : Nat) (ret : Option FieldType) (k : Nat) : Prop :=
  Cond.methodLink own idx y ∈ zw_T ∧ Cond.sameMethod y.cls y.cls y.name y.desc ∈ zw_T ∧ Cond.superclass own y.cls ∈ zw_T ∧ Cond.instanceMethod y ∈ zw_T ∧ Cond.initialized y.cls ∈ zw_T ∧ Cond.code y b n ret ∈ zw_T ∧ y.name ≠ "<init>" ∧ (parseMethodDescriptor y.desc).map (fun d => d.parameters.length) = some k
def yMI (own : String) (idx : Nat) (y : MethodName) (b : ByteArray) (n : Nat) (k : Nat) : Prop :=
  y.name = "<init>" ∧ Cond.methodLink own idx y ∈ zw_T ∧ Cond.instanceMethod y ∈ zw_T ∧ Cond.initialized y.cls ∈ zw_T ∧ Cond.code y b n none ∈ zw_T ∧ (y.cls ≠ "java/lang/invoke/MethodHandle" ∧ y.cls ≠ "java/lang/invoke/VarHandle") ∧ (parseMethodDescriptor y.desc).map (fun d => d.parameters.length) = some k
def yMV (own : String) (idx : Nat) (y : MethodName) (b : ByteArray) (n : Nat) (ret : Option FieldType) (k : Nat) : Prop :=
  Cond.methodLink own idx y ∈ zw_T ∧ Cond.instanceMethod y ∈ zw_T ∧ Cond.selects y.cls y y ∈ zw_T ∧ Cond.initialized y.cls ∈ zw_T ∧ Cond.code y b n ret ∈ zw_T ∧ (y.cls ≠ "java/lang/invoke/MethodHandle" ∧ y.cls ≠ "java/lang/invoke/VarHandle") ∧ (parseMethodDescriptor y.desc).map (fun d => d.parameters.length) = some k
section YC
variable {w wc : zW} {p : Program} {l : Launch} {e : Env} {R : Room} {s : State} {m : MethodId} {args : Array Value} {below : List Frame} {meth : Method} {c : Code} {nL cells slots : Nat} {Q : State → Prop}
variable {cc : ByteArray} {own : String} {pc : Nat} {loc : List (Option zv)} {stk : List zv} {G Gc : Heap → Prop} {ws : va_W}
/-- what was there before the call, as far as the callee may not write it -/
def yBe (wc : zW) (G : Heap → Prop) (H1 : Heap) : Prop := ∃ H0 : Heap, G H0 ∧ H0.size ≤ H1.size ∧ ∀ q, q < H0.size → ¬ zA wc q → H1[q]? = H0[q]?
theorem y_ofRun {post : Option zv → (Heap → Prop) → Prop} {rest : List zv} {a : Array Value} {mc ms : Nat} (hA : ∀ q, zA wc q → zA w q)
    (hr : ∀ (H : Heap) (locs : List Loc) (ls : Array Slot), G H → va_S (zA w) s.heap H locs → lv_has ls nL (zlo 0 loc) → (∀ v ∈ stk, yok v) → va_Run p l e R s m args below meth c H locs cells slots mc ms (F0 m pc ls (stk.map zval)) (rest.map zval) (yQ wc post a) (zA wc))
    (hrest : ∀ v ∈ rest, v ∈ stk)
    (kk : ∀ (r : Option zv) (G1 : Heap → Prop), post r G1 → yS w p l e R s m args below meth c nL (cells + mc) (slots + ms) Q (pc + 3) loc (zpush r rest) (fun H1 => G1 H1 ∧ yBe wc G H1)) : yS w p l e R s m args below meth c nL cells slots Q pc loc stk G := by
  intro H locs ls hR hS hl hk ho T hT X
  obtain ⟨v, st₀, t, T', L, h0, X', hL, e1, e2, ⟨⟨r, G1, hv, hp, hR1, hok⟩, hz, hkeep⟩, st⟩ := hr H locs ls hR hS hl hk T hT X
  have hv' : v = r.map zval := by cases hv; rfl
  subst hv'
  rw [h0] at hz hkeep
  obtain ⟨t2, a1, b1⟩ := kk r G1 hp T'.heap (locs ++ L) ls (by rw [e1]; exact ⟨hR1, H, hR, hz, hkeep⟩)
    ⟨Nat.le_trans hS.1 (by rw [e1]; exact hz), fun q h1 h2 => by rw [e1, hkeep q (Nat.lt_of_lt_of_le h1 hS.1) (fun z => h2 (hA q z))]; exact hS.2.1 q h1 h2, fun q hq => by
      rcases List.mem_append.mp hq with h | h
      · exact hS.2.2 q h
      · exact hA _ (hL q h)⟩ hl (fun u hu => by
        cases r with
        | none => exact hk u (hrest u hu)
        | some v =>
          rcases List.mem_cons.mp hu with rfl | hu
          · exact hok _ rfl
          · exact hk u (hrest u hu)) ho T' rfl X'
  rw [show (zpush r rest).map zval = (r.map zval).toList ++ rest.map zval from zpush_map r rest] at a1
  exact ⟨t2, st t2 a1, b1⟩
theorem y_callU (C : zC w p s m args c nL cc own) (hX : yX w s s.heap) {idx b n k fr lo mc ms : Nat} {y : MethodName} {bt : ByteArray} {ret : Option FieldType} {As rest : List zv} {post : Option zv → (Heap → Prop) → Prop} (hd : decode cc pc = .ok (.invokevirtual idx, 3)) (hm : yMU own idx y bt n ret k)
    (hA : ∀ q, zA wc q → zA w q) (hc : yCt wc l y bt n ret fr lo mc ms (.inr (8, b) :: As) Gc post)
    (hpre : ∀ (H : Heap) (locs : List Loc), G H → va_S (zA w) s.heap H locs → (∃ cellB : Cell, H[b]? = some cellB ∧ cellB.vm.isStatics = false ∧ s.vm.findClass RJ4 = some cellB.cls) ∧ ∀ U : State, U.heap = H → s.WarmedH U.vm → yPre wc Gc U)
    (hs : stk = As.reverse ++ .inr (8, b) :: rest) (hR : fr + 1 ≤ R.frames ∧ 8 + (n + 11) + lo ≤ R.locals) (hcs : cells + mc ≤ R.cells ∧ slots + ms ≤ R.slots) (hk8 : As.length = k ∧ rest.length ≤ 8)
    (kk : ∀ (r : Option zv) (G1 : Heap → Prop), post r G1 → yS w p l e R s m args below meth c nL (cells + mc) (slots + ms) Q (pc + 3) loc (zpush r rest) (fun H1 => G1 H1 ∧ yBe wc G H1)) : yS w p l e R s m args below meth c nL cells slots Q pc loc stk G := by
  obtain ⟨hx, hb, hml, hown, hts, hK⟩ := C
  obtain ⟨m2, m3, m4, m5, m5i, m6, m7, m8⟩ := hm
  refine y_ofRun (a := (Value.ref b :: As.map zval).toArray) (rest := rest) (post := post) hA ?_ (fun v hv => by rw [hs]; exact List.mem_append_right _ (List.mem_cons_of_mem _ hv)) kk
  intro H locs ls hR1 hS hl hk
  have hM := hc (fun v hv => by
    rcases List.mem_cons.mp hv with rfl | hv
    · trivial
    · exact hk v (by rw [hs]; exact List.mem_append_left _ (List.mem_reverse.mpr hv)))
  have hG : GoodIn zw_T (Cond.code y bt n ret :: zw_T) := zw_good_ws m6
  have hsel : (Cond.selects RJ4 y y).before args s = true := by
    rcases m4 with h | h
    · exact va_Nw.use (by first | rfl | simp [Cond.onTables]) (hX.1.1 y h)
    · exact hts _ h
  have hcu : va_CU R s args own RJ4 y.cls idx y y bt n ret (Cond.code y bt n ret :: zw_T) (zRmi fr lo mc ms) mc ms k :=
    ⟨⟨rfl, rfl, hR.1, hR.2, pay_in hts hG, List.mem_cons_self⟩, hts _ m6, hts _ m5i, m7, fun sig h => by
      rw [h] at m8
      exact (Option.some.inj m8).symm, hts _ m2, hts _ m3, va_Decl.of (hts _ m5) (hts _ m6), hsel, hts _ m5⟩
  obtain ⟨hrc, hpr⟩ := hpre H locs hR1 hS
  exact va_runU (p := p) (l := l) (e := e) (R := R) (below := below) (meth := meth) (H := H) (locs := locs) (cells := cells) (slots := slots) (b := b) (As := As.map zval) (rest := rest.map zval) (g := F0 m pc ls (stk.map zval)) (C := RJ4) (owner := y.cls) (x := y) ⟨hx, hb, hml, hown, hts⟩ hM hcu
    ⟨yPre_blind, hrc, fun U hU hW => ⟨rfl, hpr U hU hW⟩⟩ rfl (by rw [List.length_map]; exact hk8.1) hl.1 (by
      show stk.map zval = _
      rw [hs, List.map_append, List.map_reverse]
      rfl) (lv_room (by rw [zsum_len]; exact hk8.2)) hd hcs
theorem y_callSU (C : zC w p s m args c nL cc own) {idx b n k fr lo mc ms : Nat} {y : MethodName} {bt : ByteArray} {ret : Option FieldType} {As rest : List zv} {post : Option zv → (Heap → Prop) → Prop} (hd : decode cc pc = .ok (.invokespecial idx, 3)) (hm : yMSU own idx y bt n ret k)
    (hA : ∀ q, zA wc q → zA w q) (hc : yCt wc l y bt n ret fr lo mc ms (.inr (8, b) :: As) Gc post)
    (hpre : ∀ (H : Heap) (locs : List Loc), G H → va_S (zA w) s.heap H locs → (∃ cellB : Cell, H[b]? = some cellB ∧ cellB.vm.isStatics = false ∧ s.vm.findClass RJ4 = some cellB.cls) ∧ ∀ U : State, U.heap = H → s.WarmedH U.vm → yPre wc Gc U)
    (hs : stk = As.reverse ++ .inr (8, b) :: rest) (hR : fr + 1 ≤ R.frames ∧ 8 + (n + 11) + lo ≤ R.locals) (hcs : cells + mc ≤ R.cells ∧ slots + ms ≤ R.slots) (hk8 : As.length = k ∧ rest.length ≤ 8)
    (kk : ∀ (r : Option zv) (G1 : Heap → Prop), post r G1 → yS w p l e R s m args below meth c nL (cells + mc) (slots + ms) Q (pc + 3) loc (zpush r rest) (fun H1 => G1 H1 ∧ yBe wc G H1)) : yS w p l e R s m args below meth c nL cells slots Q pc loc stk G := by
  obtain ⟨hx, hb, hml, hown, hts, hK⟩ := C
  obtain ⟨m2, m3, m4, m5, m5i, m6, m7, m8⟩ := hm
  refine y_ofRun (a := (Value.ref b :: As.map zval).toArray) (rest := rest) (post := post) hA ?_ (fun v hv => by rw [hs]; exact List.mem_append_right _ (List.mem_cons_of_mem _ hv)) kk
  intro H locs ls hR1 hS hl hk
  have hM := hc (fun v hv => by
    rcases List.mem_cons.mp hv with rfl | hv
    · trivial
    · exact hk v (by rw [hs]; exact List.mem_append_left _ (List.mem_reverse.mpr hv)))
  have hG : GoodIn zw_T (Cond.code y bt n ret :: zw_T) := zw_good_ws m6
  have hcu : va_CS R s args own idx y bt n ret (Cond.code y bt n ret :: zw_T) (zRmi fr lo mc ms) mc ms k :=
    ⟨⟨rfl, rfl, hR.1, hR.2, pay_in hts hG, List.mem_cons_self⟩, hts _ m2, hts _ m3, hts _ m4, hts _ m5, hts _ m5i, hts _ m6, m7, fun sig h => by
      rw [h] at m8
      exact (Option.some.inj m8).symm⟩
  obtain ⟨hrc, hpr⟩ := hpre H locs hR1 hS
  have hat : ClassAt s RJ4 ((zwD w).1 8) := (hK.1.1 8 _ rfl).2
  exact va_runSU (p := p) (l := l) (e := e) (R := R) (below := below) (meth := meth) (H := H) (locs := locs) (cells := cells) (slots := slots) (b := b) (As := As.map zval) (rest := rest.map zval) (g := F0 m pc ls (stk.map zval)) (C := RJ4) hat ⟨hx, hb, hml, hown, hts⟩ hM hcu
    ⟨yPre_blind, hrc, fun U hU hW => ⟨rfl, hpr U hU hW⟩⟩ rfl (by rw [List.length_map]; exact hk8.1) hl.1 (by
      show stk.map zval = _
      rw [hs, List.map_append, List.map_reverse]
      rfl) (lv_room (by rw [zsum_len]; exact hk8.2)) hd hcs
theorem y_callI (C : zC w p s m args c nL cc own) {idx b kd n k fr lo mc ms : Nat} {y : MethodName} {bt : ByteArray} {As rest : List zv} {post : Option zv → (Heap → Prop) → Prop} (hd : decode cc pc = .ok (.invokespecial idx, 3)) (hm : yMI own idx y bt n k)
    (hA : ∀ q, zA wc q → zA w q) (hc : yCt wc l y bt n none fr lo mc ms (.inr (kd, b) :: As) Gc post)
    (hpre : ∀ (H : Heap) (locs : List Loc), G H → va_S (zA w) s.heap H locs → ∀ U : State, U.heap = H → s.WarmedH U.vm → yPre wc Gc U)
    (hs : stk = As.reverse ++ .inr (kd, b) :: rest) (hR : fr + 1 ≤ R.frames ∧ 8 + (n + 11) + lo ≤ R.locals) (hcs : cells + mc ≤ R.cells ∧ slots + ms ≤ R.slots) (hk8 : As.length = k ∧ rest.length ≤ 8)
    (kk : ∀ (r : Option zv) (G1 : Heap → Prop), post r G1 → yS w p l e R s m args below meth c nL (cells + mc) (slots + ms) Q (pc + 3) loc (zpush r rest) (fun H1 => G1 H1 ∧ yBe wc G H1)) : yS w p l e R s m args below meth c nL cells slots Q pc loc stk G := by
  obtain ⟨hx, hb, hml, hown, hts, hK⟩ := C
  obtain ⟨m1, m2, m5, m5i, m6, m7, m8⟩ := hm
  refine y_ofRun (a := (Value.ref b :: As.map zval).toArray) (rest := rest) (post := post) hA ?_ (fun v hv => by rw [hs]; exact List.mem_append_right _ (List.mem_cons_of_mem _ hv)) kk
  intro H locs ls hR1 hS hl hk
  have hM := hc (fun v hv => by
    rcases List.mem_cons.mp hv with rfl | hv
    · trivial
    · exact hk v (by rw [hs]; exact List.mem_append_left _ (List.mem_reverse.mpr hv)))
  have hcall : CallB R s args own idx y bt n none (Cond.code y bt n none :: zw_T) (zRmi fr lo mc ms) mc ms k ∧ y.name = "<init>" ∧ (Cond.instanceMethod y).before args s = true :=
    ⟨callB_of k hts (zw_good_ws m6) rfl rfl rfl (hts _ m5i) (hts _ m2) ⟨m7.1, m7.2, m8⟩ hR, m1, hts _ m5⟩
  exact va_runI (p := p) (l := l) (e := e) (R := R) (below := below) (meth := meth) (H := H) (locs := locs) (cells := cells) (slots := slots) (b := b) (As := As.map zval) (rest := rest.map zval) (g := F0 m pc ls (stk.map zval)) ⟨hx, hb, hml, hown, hts⟩ hM hcall
    ⟨yPre_blind, fun U hU hW => ⟨rfl, hpre H locs hR1 hS U hU hW⟩⟩ rfl (by rw [List.length_map]; exact hk8.1) hl.1 (by
      show stk.map zval = _
      rw [hs, List.map_append, List.map_reverse]
      rfl) (lv_room (by rw [zsum_len]; exact hk8.2)) hd hcs
theorem y_callS (C : zC w p s m args c nL cc own) {idx n k fr lo mc ms : Nat} {y : MethodName} {bt : ByteArray} {ret : Option FieldType} {As rest : List zv} {post : Option zv → (Heap → Prop) → Prop} (hd : decode cc pc = .ok (.invokestatic idx, 3)) (hm : zMS own idx y bt n ret k)
    (hA : ∀ q, zA wc q → zA w q) (hc : yCt wc l y bt n ret fr lo mc ms As Gc post)
    (hpre : ∀ (H : Heap) (locs : List Loc), G H → va_S (zA w) s.heap H locs → ∀ U : State, U.heap = H → s.WarmedH U.vm → yPre wc Gc U)
    (hs : stk = As.reverse ++ rest) (hR : fr + 1 ≤ R.frames ∧ 8 + (n + 11) + lo ≤ R.locals) (hcs : cells + mc ≤ R.cells ∧ slots + ms ≤ R.slots) (hk8 : As.length = k ∧ rest.length ≤ 8)
    (kk : ∀ (r : Option zv) (G1 : Heap → Prop), post r G1 → yS w p l e R s m args below meth c nL (cells + mc) (slots + ms) Q (pc + 3) loc (zpush r rest) (fun H1 => G1 H1 ∧ yBe wc G H1)) : yS w p l e R s m args below meth c nL cells slots Q pc loc stk G := by
  obtain ⟨hx, hb, hml, hown, hts, hK⟩ := C
  obtain ⟨m2, m3, m5, m6, m7, m8⟩ := hm
  refine y_ofRun (a := (As.map zval).toArray) (rest := rest) (post := post) hA ?_ (fun v hv => by rw [hs]; exact List.mem_append_right _ hv) kk
  intro H locs ls hR1 hS hl hk
  have hM := hc (fun v hv => hk v (by rw [hs]; exact List.mem_append_left _ (List.mem_reverse.mpr hv)))
  have hcall : CallB R s args own idx y bt n ret (Cond.code y bt n ret :: zw_T) (zRmi fr lo mc ms) mc ms k ∧ (Cond.static y).before args s = true :=
    ⟨callB_of k hts (zw_good_ws m6) rfl rfl rfl (hts _ m5) (hts _ m2) ⟨m7.1, m7.2, m8⟩ hR, hts _ m3⟩
  exact va_runS (p := p) (l := l) (e := e) (R := R) (below := below) (meth := meth) (H := H) (locs := locs) (cells := cells) (slots := slots) (As := As.map zval) (rest := rest.map zval) (g := F0 m pc ls (stk.map zval)) ⟨hx, hb, hml, hown, hts⟩ hM hcall
    ⟨yPre_blind, fun U hU hW => ⟨rfl, hpre H locs hR1 hS U hU hW⟩⟩ rfl (by rw [List.length_map]; exact hk8.1) hl.1 (by
      show stk.map zval = _
      rw [hs, List.map_append, List.map_reverse]) (lv_room (by rw [zsum_len]; exact hk8.2)) hd hcs
theorem y_callV (C : zC w p s m args c nL cc own) {idx b kd n k fr lo mc ms : Nat} {y : MethodName} {bt : ByteArray} {ret : Option FieldType} {As rest : List zv} {post : Option zv → (Heap → Prop) → Prop} (hd : decode cc pc = .ok (.invokevirtual idx, 3)) (hm : yMV own idx y bt n ret k)
    (hA : ∀ q, zA wc q → zA w q) (hc : yCt wc l y bt n ret fr lo mc ms (.inr (kd, b) :: As) Gc post)
    (hpre : ∀ (H : Heap) (locs : List Loc), G H → va_S (zA w) s.heap H locs → (∃ cellB : Cell, H[b]? = some cellB ∧ cellB.vm.isStatics = false ∧ s.vm.findClass y.cls = some cellB.cls) ∧ ∀ U : State, U.heap = H → s.WarmedH U.vm → yPre wc Gc U)
    (hs : stk = As.reverse ++ .inr (kd, b) :: rest) (hR : fr + 1 ≤ R.frames ∧ 8 + (n + 11) + lo ≤ R.locals) (hcs : cells + mc ≤ R.cells ∧ slots + ms ≤ R.slots) (hk8 : As.length = k ∧ rest.length ≤ 8)
    (kk : ∀ (r : Option zv) (G1 : Heap → Prop), post r G1 → yS w p l e R s m args below meth c nL (cells + mc) (slots + ms) Q (pc + 3) loc (zpush r rest) (fun H1 => G1 H1 ∧ yBe wc G H1)) : yS w p l e R s m args below meth c nL cells slots Q pc loc stk G := by
  obtain ⟨hx, hb, hml, hown, hts, hK⟩ := C
  obtain ⟨m2, m3, m4, m5, m6, m7, m8⟩ := hm
  refine y_ofRun (a := (Value.ref b :: As.map zval).toArray) (rest := rest) (post := post) hA ?_ (fun v hv => by rw [hs]; exact List.mem_append_right _ (List.mem_cons_of_mem _ hv)) kk
  intro H locs ls hR1 hS hl hk
  have hM := hc (fun v hv => by
    rcases List.mem_cons.mp hv with rfl | hv
    · trivial
    · exact hk v (by rw [hs]; exact List.mem_append_left _ (List.mem_reverse.mpr hv)))
  have hcall : CallW R s args own y.cls idx y bt n ret (Cond.code y bt n ret :: zw_T) (zRmi fr lo mc ms) mc ms k :=
    ⟨callB_of k hts (zw_good_ws m6) rfl rfl rfl (hts _ m5) (hts _ m2) ⟨m7.1, m7.2, m8⟩ hR, hts _ m3, hts _ m4⟩
  obtain ⟨hrc, hpr⟩ := hpre H locs hR1 hS
  exact va_runV (p := p) (l := l) (e := e) (R := R) (below := below) (meth := meth) (H := H) (locs := locs) (cells := cells) (slots := slots) (b := b) (As := As.map zval) (rest := rest.map zval) (g := F0 m pc ls (stk.map zval)) (C := y.cls) ⟨hx, hb, hml, hown, hts⟩ hM hcall
    ⟨yPre_blind, hrc, fun U hU hW => ⟨rfl, hpr U hU hW⟩⟩ rfl (by rw [List.length_map]; exact hk8.1) hl.1 (by
      show stk.map zval = _
      rw [hs, List.map_append, List.map_reverse]
      rfl) (lv_room (by rw [zsum_len]; exact hk8.2)) hd hcs
/-- the builder among the cells, as a receiver -/
theorem y_recv (C : zC w p s m args c nL cc own) {H : Heap} {q0 ci b N : Nat} {Cn : String} {T : u_T} {fs : List Value} (hc : vwCl[ci]? = some (Cn, T, N)) (hR : yL w ws H) (he : ws[q0]? = some (b, .inr (ci, fs))) : ∃ cellB : Cell, H[b]? = some cellB ∧ cellB.vm.isStatics = false ∧ s.vm.findClass Cn = some cellB.cls := by
  obtain ⟨hx, hb, hml, hown, hts, hK⟩ := C
  obtain ⟨r, h1, cell, g1, g2, g3, -⟩ := hR.1 q0 _ he
  exact ⟨cell, g1, by rw [g3]; rfl, by rw [g2]; exact (hK.1.1 ci _ hc).2.1⟩
/-- the same world for the callee -/
theorem y_pre (C : zC w p s m args c nL cc own) (hX : yX w s s.heap) (hN : ∀ q, s.heap.size ≤ q → zA w q) {H : Heap} {locs : List Loc} (hG : G H) (hS : va_S (zA w) s.heap H locs) : ∀ U : State, U.heap = H → s.WarmedH U.vm → yPre w G U := fun U hU hW =>
  ⟨yKn.warm hW hS hU ⟨C.2.2.2.2.2, hX⟩, fun q hq => hN q (Nat.le_trans hS.1 (by rw [← hU]; exact hq)), by rw [hU]; exact hG⟩
end YC
