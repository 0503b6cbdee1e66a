/-! What the heap holds, by a list of cells; contracts and calls about it. -/
def yL (w : zW) (ws : va_W) (H : Heap) : Prop := va_P (zwD w) vwCl ws H ∧ va_D (zA w) ws
/-- the builder's own private methods -/
def yPr : List MethodName := [yJ5_ensureCapacityInternal_d00df, yJ5_newCapacity_0f7a4, yJ5_putStringAt_47b60, yJ5_inflateIfNeededFor_a7421]
/-- the law's own strings: place in its pool, text -/
def ySR : List (Nat × Nat × String) := [(21, 0, " "), (65, 1, "carriers "), (73, 2, ";set length "), (77, 3, ";set guard "), (82, 4, ";set level "), (84, 5, ";"), (86, 6, "station "), (98, 7, "-"), (100, 8, ""), (114, 9, "rain "), (119, 10, "call "), (60, 11, "s")]
def ySB : List (List Int32) := [[32], [99, 97, 114, 114, 105, 101, 114, 115, 32], [59, 115, 101, 116, 32, 108, 101, 110, 103, 116, 104, 32], [59, 115, 101, 116, 32, 103, 117, 97, 114, 100, 32], [59, 115, 101, 116, 32, 108, 101, 118, 101, 108, 32], [59], [115, 116, 97, 116, 105, 111, 110, 32], [45], [], [114, 97, 105, 110, 32], [99, 97, 108, 108, 32], [115]]
def ySL : List Nat := [1, 9, 12, 11, 11, 1, 8, 1, 0, 5, 5, 1]
/-- what is known beside: those methods' selection, arrays can be cloned, the law's strings, the tables of digits -/
def yX (w : zW) (U : State) (H : Heap) : Prop :=
  ((∀ y ∈ yPr, va_Nw (.selects RJ4 y y) U) ∧ (va_Nw (.castable "[B" "java/lang/Cloneable") U ∧ va_AO RX5 U ∧ va_AO RX3 U ∧ va_AO RX0 U ∧ va_AO RX4 U) ∧ ∀ q ∈ ySR, vk_R RL q.1 q.2.2 (zwS w (80 + q.2.1)) U)
  ∧ vk_S 12 ySL ySB (fun i => zwS w (80 + i)) (fun i => zwS w (100 + i)) (zA w) U H
  ∧ (va_Z "java/lang/Integer" "DigitOnes" "[B" (.ref (zwS w 120)) (zA w) U H ∧ va_T .byte (zwS w 120) 100 (fun j => .int (zi (((j % 10 : Nat) : Int) + 48))) (zA w) U H)
  ∧ va_Z "java/lang/Integer" "DigitTens" "[B" (.ref (zwS w 121)) (zA w) U H ∧ va_T .byte (zwS w 121) 100 (fun j => .int (zi (((j / 10 : Nat) : Int) + 48))) (zA w) U H
theorem yX.moved {w : zW} {u U : State} {H : Heap} (hW : u.WarmedH U.vm) (h : yX w u H) : yX w U H :=
  ⟨⟨fun y hy => word_at hW (Or.inl (by first | rfl | simp [Cond.onTables, Cond.keeps, Cond.steady])) (h.1.1 y hy), ⟨va_Nw.warmC hW h.1.2.1.1, h.1.2.1.2.1.moved hW.alike, h.1.2.1.2.2.1.moved hW.alike, h.1.2.1.2.2.2.1.moved hW.alike, h.1.2.1.2.2.2.2.moved hW.alike⟩, fun q hq => vk_R.warm hW (h.1.2.2 q hq)⟩, vk_S.moved hW.alike h.2.1, ⟨va_Z.moved hW.alike h.2.2.1.1, va_T.moved hW.alike h.2.2.1.2⟩, va_Z.moved hW.alike h.2.2.2.1, va_T.moved hW.alike h.2.2.2.2⟩
theorem yX.same {w : zW} {u U : State} {H : Heap} (e : u.vm = U.vm) (h : yX w u H) : yX w U H := by
  have al : u.vm.Alike U.vm := by rw [e]; exact Vm.Alike.refl _
  exact ⟨⟨fun y hy => va_tabs rfl e (h.1.1 y hy), ⟨va_Nw.same rfl e h.1.2.1.1, h.1.2.1.2.1.moved al, h.1.2.1.2.2.1.moved al, h.1.2.1.2.2.2.1.moved al, h.1.2.1.2.2.2.2.moved al⟩, fun q hq => vk_R.same e.symm (h.1.2.2 q hq)⟩, vk_S.moved al h.2.1, ⟨va_Z.moved al h.2.2.1.1, va_T.moved al h.2.2.1.2⟩, va_Z.moved al h.2.2.2.1, va_T.moved al h.2.2.2.2⟩
theorem yX.kept {w : zW} {U : State} {H H1 : Heap} (hq : ∀ a : Nat, a < H.size → ¬ zA w a → H1[a]? = H[a]?) (h : yX w U H) : yX w U H1 :=
  ⟨h.1, h.2.1.kept hq, ⟨h.2.2.1.1.kept hq, h.2.2.1.2.kept hq⟩, h.2.2.2.1.kept hq, h.2.2.2.2.kept hq⟩
/-- all that is known of a state -/
def yKn (w : zW) (U : State) : Prop := zKn w U ∧ yX w U U.heap
theorem yKn.warm {w : zW} {s U : State} {H : Heap} {locs : List Loc} (hW : s.WarmedH U.vm) (hS : va_S (zA w) s.heap H locs) (hU : U.heap = H) (h : yKn w s) : yKn w U :=
  ⟨zKn.warm hW hS hU h.1, by rw [hU]; exact yX.kept (fun a h1 h2 => hS.2.1 a h1 h2) (yX.moved hW h.2)⟩
theorem yKn.same {w : zW} {u U : State} (e : u.vm = U.vm) (he : u.heap = U.heap) (h : yKn w u) : yKn w U :=
  ⟨zKn.same e he h.1, by rw [← he]; exact yX.same e h.2⟩
/-- a world without a pool, with the region U, and with its own text -/
def zPu (w : zW) (U : Nat → Prop) : zW := (zwD w, zwA w, 0, [], fun a => if zwK w a = 31 then 31 else 0, zwS w, U, zwN w, zwX w, zwTl w)
def zPt (w : zW) (U : Nat → Prop) (q qa : Nat) (t : List Int32) : zW := (zwD w, zwA w, 0, [], fun a => if zwK w a = 31 ∨ a = q ∨ a = qa then 31 else 0, fun i => if i = 31 then q else if i = 71 then qa else zwS w i, U, zwN w, zwX w, t)
theorem zPu_A {w : zW} {U : Nat → Prop} {q : Nat} : zA (zPu w U) q ↔ U q := ⟨fun h => h.2, fun h => ⟨Nat.zero_le _, h⟩⟩
theorem zPt_A {w : zW} {U : Nat → Prop} {x y q : Nat} {t : List Int32} : zA (zPt w U x y t) q ↔ U q := ⟨fun h => h.2, fun h => ⟨Nat.zero_le _, h⟩⟩
/-- one string, and its letters -/
def yT (q qa : Nat) (t : List Int32) (A : Nat → Prop) (U : State) (H : Heap) : Prop := vk_S 1 [t.length] [t] (fun _ => q) (fun _ => qa) A U H
theorem zPt_Kn {w : zW} {U : Nat → Prop} {q qa : Nat} {t : List Int32} {s : State} (hU : ∀ a, U a → zA w a) (ht : t.length ≤ 100000 ∧ ∀ x ∈ t, 0 ≤ x.toInt ∧ x.toInt < 128) (hT : yT q qa t U s s.heap) (h : yKn w s) : yKn (zPt w U q qa t) s := by
  have hA : ∀ a, zA (zPt w U q qa t) a → zA w a := fun a ha => hU a (zPt_A.mp ha)
  obtain ⟨⟨k1, k2, ⟨h1, h3, h4, h5, h6, h7, h8, h9, h10, h11, h12⟩, k4⟩, y1, y2, y3, y4⟩ := h
  have K : ∀ a, zwK w a = 31 → zwK (zPt w U q qa t) a = 31 := fun a ha => if_pos (Or.inl ha)
  have e : ∀ i : Nat, i ≠ 31 → i ≠ 71 → zwS (zPt w U q qa t) i = zwS w i := fun i g1 g2 => by
    show (if i = 31 then q else if i = 71 then qa else zwS w i) = _
    rw [if_neg g1, if_neg g2]
  have eS : ∀ {N : Nat} {L : List Nat} {B : List (List Int32)} {b1 b2 : Nat}, (∀ i, i < N → b1 + i ≠ 31 ∧ b1 + i ≠ 71 ∧ b2 + i ≠ 31 ∧ b2 + i ≠ 71) → vk_S N L B (fun i => zwS w (b1 + i)) (fun i => zwS w (b2 + i)) (zA w) s s.heap → vk_S N L B (fun i => zwS (zPt w U q qa t) (b1 + i)) (fun i => zwS (zPt w U q qa t) (b2 + i)) (zA (zPt w U q qa t)) s s.heap := fun {N L B b1 b2} hb hv => by
    have hv' := hv.narrow hA
    refine ⟨fun i hi => ?_, fun i j hi hj he => hv'.2 i j hi hj ?_⟩
    · obtain ⟨g1, g2, g3, g4⟩ := hb i hi
      show va_O _ (zwS (zPt w U q qa t) (b1 + i)) _ _ _ ∧ va_OF _ _ _ _ (zwS (zPt w U q qa t) (b1 + i)) _ _ _ ∧ va_OF _ _ _ (.ref (zwS (zPt w U q qa t) (b2 + i))) (zwS (zPt w U q qa t) (b1 + i)) _ _ _ ∧ va_T _ (zwS (zPt w U q qa t) (b2 + i)) _ _ _ _ _
      rw [e _ g1 g2, e _ g3 g4]
      exact hv'.1 i hi
    · show zwS w (b1 + i) = zwS w (b1 + j)
      rw [← e _ (hb i hi).1 (hb i hi).2.1, ← e _ (hb j hj).1 (hb j hj).2.1]
      exact he
  refine ⟨⟨k1, ⟨k2.1, k2.2.1, fun r hr => ?_, k2.2.2.2.1, k2.2.2.2.2⟩, ⟨fun i hi => ?_, h3.narrow hA, ?_, fun i hi => ?_, h6.narrow hA, vx_Zq.narrow h7 hA, vx_Zq.narrow h8 hA, ?_, h10, ?_, ht⟩, Nat.zero_le _⟩, ⟨y1.1, y1.2.1, fun r hr => ?_⟩, eS (fun i hi => by omega) y2, ?_, ?_⟩
  · have hr16 : r.2.2.1 < 16 := (by decide : ∀ r ∈ zw_SR, r.2.2.1 < 16) r hr
    rw [e _ (by omega) (by omega)]
    exact k2.2.2.1 r hr
  · obtain ⟨g1, g2, g3⟩ := h1 i hi
    rw [e _ (by omega) (by omega)]
    exact ⟨K _ g1, g2.narrow hA, g3.narrow hA⟩
  · have := @eS 16 zsL zsB 0 40 (fun i hi => by omega) (by simpa only [Nat.zero_add] using h4)
    simpa only [Nat.zero_add] using this
  · obtain ⟨g1, g2⟩ := h5 i hi
    rw [e _ (by omega) (by omega), e _ (by omega) (by omega)]
    exact ⟨K _ g1, K _ g2⟩
  · rw [e _ (by omega) (by omega)]
    exact ⟨K _ h9.1, h9.2.narrow hA⟩
  · have e31 : zwS (zPt w U q qa t) 31 = q := rfl
    have e71 : zwS (zPt w U q qa t) 71 = qa := rfl
    rw [e31, e71]
    exact ⟨⟨if_pos (Or.inr (Or.inl rfl)), if_pos (Or.inr (Or.inr rfl))⟩, vk_S.narrow hT fun a ha => zPt_A.mp ha⟩
  · have hr12 : r.2.1 < 12 := (by decide : ∀ r ∈ ySR, r.2.1 < 12) r hr
    rw [e _ (by omega) (by omega)]
    exact y1.2.2 r hr
  · rw [e _ (by omega) (by omega)]
    exact ⟨y3.1.narrow hA, y3.2.narrow hA⟩
  · rw [e _ (by omega) (by omega)]
    exact ⟨y4.1.narrow hA, y4.2.narrow hA⟩
theorem zPu_Kn {w : zW} {U : Nat → Prop} {s : State} (hU : ∀ a, U a → zA w a) (h : yKn w s) : yKn (zPu w U) s := by
  have hA : ∀ a, zA (zPu w U) a → zA w a := fun a ha => hU a (zPu_A.mp ha)
  obtain ⟨⟨k1, k2, ⟨h1, h3, h4, h5, h6, h7, h8, h9, h10, h11, h12⟩, k4⟩, y1, y2, y3, y4⟩ := h
  have K : ∀ a, zwK w a = 31 → zwK (zPu w U) a = 31 := fun a ha => if_pos ha
  exact ⟨⟨k1, k2, ⟨fun i hi => ⟨K _ (h1 i hi).1, (h1 i hi).2.1.narrow hA, (h1 i hi).2.2.narrow hA⟩, h3.narrow hA, h4.narrow hA, fun i hi => ⟨K _ (h5 i hi).1, K _ (h5 i hi).2⟩, h6.narrow hA, vx_Zq.narrow h7 hA, vx_Zq.narrow h8 hA, ⟨K _ h9.1, h9.2.narrow hA⟩, h10, ⟨⟨K _ h11.1.1, K _ h11.1.2⟩, h11.2.narrow hA⟩, h12⟩, Nat.zero_le _⟩, y1, y2.narrow hA, ⟨y3.1.narrow hA, y3.2.narrow hA⟩, y4.1.narrow hA, y4.2.narrow hA⟩
def zH0 : zH := (fun _ _ => 0, fun _ _ => 0)
theorem zPu_rel {w : zW} {U : Nat → Prop} {H : Heap} : zRel (zPu w U) zH0 H := by
  have K : ∀ a, zwK (zPu w U) a ≠ 0 → zwK (zPu w U) a = 31 := fun a h => by
    have e : zwK (zPu w U) a = if zwK w a = 31 then 31 else 0 := rfl
    rw [e] at h ⊢
    split at h
    · rw [if_pos ‹_›]
    · exact absurd rfl h
  refine ⟨fun k q h => by simp [va_pl, zwL, zPu] at h, ⟨fun i j p q h => by simp [va_pl, zwL, zPu] at h, fun k q h => by simp [va_pl, zwL, zPu] at h⟩, fun a j h0 h1 => ?_, fun a j => ⟨show (-2147483648 : Int) ≤ 0 by decide, show (0 : Int) < 2147483648 by decide⟩, fun a h => ?_⟩
  · rw [K a h0] at h1
    exact absurd h1 (by decide +revert)
  · have := K a h.1
    omega
def yFld (own : String) (idx ci j : Nat) : Prop := ∃ (C : String) (T : u_T) (N : Nat), vwCl[ci]? = some (C, T, N) ∧ (∀ x ∈ u_ws C T N, x ∈ zw_T) ∧ j < N ∧ Cond.fieldLink own idx (T j).1 (T j).2.1 (T j).2.2.1 ∈ zw_T
def yPut (own : String) (idx ci j : Nat) (fin : Bool) (ty : FieldType) : Prop := ∃ (C : String) (T : u_T) (N : Nat) (ty0 : Nat → FieldType), vwCl[ci]? = some (C, T, N) ∧ (∀ x ∈ u_ws C T N, x ∈ zw_T) ∧ j < N ∧ Cond.fieldLink own idx (T j).1 (T j).2.1 (T j).2.2.1 ∈ zw_T ∧ (∀ k, k < N → parseFieldDescriptor (T k).2.2.1 = some (ty0 k)) ∧ (∀ a, a < N → ∀ b, b < N → a ≠ b → (T a).2.1 ≠ (T b).2.1) ∧ (T j).2.2.2 = fin ∧ parseFieldDescriptor (T j).2.2.1 = some ty ∧ (fin = true → (T j).1 = own)
/-- behind a method: its answer, and what the heap then holds -/
def yQ (w : zW) (post : Option zv → (Heap → Prop) → Prop) : Array Value → State → Outcome → State → Prop := fun _ st oc t => (∃ (r : Option zv) (G : Heap → Prop), oc = .returned (r.map zval) ∧ post r G ∧ G t.heap ∧ ∀ v, r = some v → yok v) ∧ va_F (zA w) st t
def yPre (w : zW) (G : Heap → Prop) (U : State) : Prop := yKn w U ∧ (∀ q, U.heap.size ≤ q → zA w q) ∧ G U.heap
def yCt (w : zW) (l : Launch) (y : MethodName) (b : ByteArray) (n : Nat) (ret : Option FieldType) (fr lo mc ms : Nat) (av : List zv) (G : Heap → Prop) (post : Option zv → (Heap → Prop) → Prop) : Prop :=
  (∀ v ∈ av, yok v) → Met l y (Cond.code y b n ret :: zw_T) (zRmi fr lo mc ms) (va_Pc (av.map zval) (yPre w G)) (yQ w post) mc ms (zA w)
theorem yPre_blind {w : zW} {G : Heap → Prop} {av : List Value} : FrameBlind (va_Pc av (yPre w G)) := fun a U g mk q => ⟨q.1, yKn.same rfl rfl q.2.1, q.2.2⟩
theorem yCt.of {w : zW} {l : Launch} {y : MethodName} {b : ByteArray} {n : Nat} {ret : Option FieldType} {fr lo mc ms : Nat} {av : List zv} {G : Heap → Prop} {post : Option zv → (Heap → Prop) → Prop} {own : String} {loc : List (Option zv)}
    (hy : plainFor y = true) (ho : y.cls = own) (hn : av.length ≤ n) (hloc : ∀ (k : Nat) (v : zv), loc[k]? = some (some v) → av[k]? = some v)
    (body : ∀ p e s m args below meth c, zC w p s m args c n b own → yX w s s.heap → meth.sig.returnType = ret → meth.locks = false → meth.name = y.name → (∀ q, s.heap.size ≤ q → zA w q) → yS w p l e (zRmi fr lo mc ms) s m args below meth c n 0 0 (MQ below (yQ w post) args s mc ms (zA w)) 0 loc [] G) : yCt w l y b n ret fr lo mc ms av G post := by
  intro hok
  refine va_MetF (cc := b) (maxL := n) (ret := ret) hy rfl ?_
  intro p e s m args below meth c s₁ B hml hv
  obtain ⟨rfl, hK, hN, hR⟩ := hv
  have hts := atoms_spec (ws := Cond.code y b n ret :: zw_T) B.pre
  have hown : s.vm.findClass own = some m.cls := by rw [← ho]; exact findClass_of_methodNamed B.named
  have C : zC w p s m (av.map zval).toArray c n b own := ⟨B.exec, B.bytes, hml, hown, fun x hx => hts x (List.mem_cons_of_mem _ hx), hK.1⟩
  have hlen : (lg_sl (av.map zval)).length ≤ n := by rw [lv_args_len]; exact hn
  have hl := lv_entry (av.map zval) (n := n) hlen
  rw [lg_entry_eq]
  generalize (lg_sl (av.map zval) ++ List.replicate (n - (lg_sl (av.map zval)).length) Slot.unset).toArray = ls at hl ⊢
  rw [zlo_args] at hl
  have hav : ∀ (k : Nat) (v : zv), loc[k]? = some (some v) → (av.map some)[k]? = some (some v) := fun k v hk => by rw [List.getElem?_map, hloc k v hk]; rfl
  refine body p e s m _ below meth c C hK.2 B.returns B.notSynchronized (name_of_methodNamed B.named B.method).1 hN s.heap [] ls hR va_S.rf (zlo_sub hl fun q hq => ?_) (fun v hv => by cases hv) (fun v hv => ?_)
  · obtain ⟨k, v, h1, h2⟩ := zlo_mem.mp hq
    exact zlo_mem.mpr ⟨k, v, hav k v h1, h2⟩
  · obtain ⟨k, hk2⟩ := List.getElem?_of_mem hv
    exact hok v (List.mem_of_getElem? (hloc k v hk2))
theorem y_fits {x : Int32} (h : 0 ≤ x.toInt ∧ x.toInt < 128) : fits .byte (.int x) = true := by
  obtain ⟨q, hq⟩ : ∃ q : Nat, x.toInt = (q : Int) := ⟨x.toInt.toNat, by omega⟩
  have e : x = zi (q : Int) := by rw [← hq, zi_of]
  rw [e]
  exact (by decide +kernel : ∀ q : Fin 128, fits .byte (.int (zi ((q : Nat) : Int))) = true) ⟨q, by omega⟩
theorem ty14 {w : zW} : (ztys w)[5]? = some (zwA w 14, .byte) := ztys_at (k := 14) (by decide) (by decide)
section YH
variable {w : zW} {p : Program} {l : Launch} {e : Env} {R : Room} {s : State} {m : MethodId} {args : Array Value} {below : List Frame} {meth : Method} {c : Code} {nL cells slots : Nat} {Q : State → Prop}
variable {cc : ByteArray} {own : String} {pc : Nat} {loc : List (Option zv)} {stk : List zv} {G : Heap → Prop} {ws : va_W}
theorem y_get (C : zC w p s m args c nL cc own) {idx ci j a q0 k : Nat} {fs : List Value} {v : zv} (hd : decode cc pc = .ok (.getfield idx, 3)) (hf : yFld own idx ci j) (he : ws[q0]? = some (a, .inr (ci, fs))) (hv : fs[j]? = some (zval v)) (hok : yok v)
    (kk : yS w p l e R s m args below meth c nL cells slots Q (pc + 3) loc (v :: stk) (yL w ws)) : yS w p l e R s m args below meth c nL cells slots Q pc loc (.inr (k, a) :: stk) (yL w ws) := by
  intro H locs ls hR hS hl hk ho
  obtain ⟨hx, hb, hml, hown, hts, hK⟩ := C
  obtain ⟨Cn, T, N, f1, f2, f3, f5⟩ := hf
  exact va_get (D := zwD w) (cl := vwCl) (ws := ws) (ci := ci) (v := zval v) (C := Cn) (T := T) (N := N) hx hb hts f2 hown hK.1 hR.1 q0 he f1 j f3 (hts _ f5) (fun _ h9 => h9) hv hd (kk H locs ls hR hS hl (yok_cons hok (yok_tl hk)) ho)
theorem y_put (C : zC w p s m args c nL cc own) {idx ci j a q0 k : Nat} {fs : List Value} {v : zv} {ty : FieldType} (hd : decode cc pc = .ok (.putfield idx, 3)) (hf : yPut own idx ci j false ty) (he : ws[q0]? = some (a, .inr (ci, fs))) (hnr : narrow ty (zval v) = zval v) (hfit : fits ty (zval v) = true) (hl9 : j < fs.length)
    (kk : yS w p l e R s m args below meth c nL cells slots Q (pc + 3) loc stk (yL w (ws.set q0 (a, .inr (ci, fs.set j (zval v)))))) : yS w p l e R s m args below meth c nL cells slots Q pc loc (v :: .inr (k, a) :: stk) (yL w ws) := by
  intro H locs ls hR hS hl hk ho
  obtain ⟨hx, hb, hml, hown, hts, hK⟩ := C
  obtain ⟨Cn, T, N, ty0, f1, f2, f3, f4, f5, f6, f7, f8, -⟩ := hf
  exact va_put (D := zwD w) (cl := vwCl) (ws := ws) (ci := ci) (v := zval v) (C := Cn) (T := T) (N := N) hx hb hts f2 ty0 f5 f6 hown hK.1 hR.1 hR.2 hS q0 he f1 j f3 (hts _ f4) (fun _ h9 => h9) f7 f8 hnr hfit hl9 hd
    fun H1 locs1 h1 h2 h3 => kk H1 locs1 ls ⟨h1, h2⟩ h3 hl (yok_tl (yok_tl hk)) ho
theorem y_putF (C : zC w p s m args c nL cc own) (hnm : meth.name = "<init>") {idx ci j a q0 k : Nat} {fs : List Value} {v : zv} {ty : FieldType} (hd : decode cc pc = .ok (.putfield idx, 3)) (hf : yPut own idx ci j true ty) (he : ws[q0]? = some (a, .inr (ci, fs))) (hnr : narrow ty (zval v) = zval v) (hfit : fits ty (zval v) = true) (hl9 : j < fs.length)
    (kk : yS w p l e R s m args below meth c nL cells slots Q (pc + 3) loc stk (yL w (ws.set q0 (a, .inr (ci, fs.set j (zval v)))))) : yS w p l e R s m args below meth c nL cells slots Q pc loc (v :: .inr (k, a) :: stk) (yL w ws) := by
  intro H locs ls hR hS hl hk ho
  obtain ⟨hx, hb, hml, hown, hts, hK⟩ := C
  obtain ⟨Cn, T, N, ty0, f1, f2, f3, f4, f5, f6, f7, f8, f9⟩ := hf
  exact va_putF (D := zwD w) (cl := vwCl) (ws := ws) (ci := ci) (v := zval v) (C := Cn) (T := T) (N := N) hx hb hts f2 ty0 f5 f6 hown hK.1 hR.1 hR.2 hS q0 he f1 j f3 (hts _ f4) (fun _ h9 => h9) f7 hnm (f9 rfl) f8 hnr hfit hl9 hd
    fun H1 locs1 h1 h2 h3 => kk H1 locs1 ls ⟨h1, h2⟩ h3 hl (yok_tl (yok_tl hk)) ho
theorem y_alen (C : zC w p s m args c nL cc own) {a q0 k n : Nat} {f : Nat → Int32} (hd : decode cc pc = .ok (.arraylength, 1)) (he : ws[q0]? = some (a, .inl (zwA w 14, n, .inl f))) (hn : n ≤ 1000000)
    (kk : yS w p l e R s m args below meth c nL cells slots Q (pc + 1) loc (.inl (n : Int) :: stk) (yL w ws)) : yS w p l e R s m args below meth c nL cells slots Q pc loc (.inr (k, a) :: stk) (yL w ws) := by
  intro H locs ls hR hS hl hk ho
  obtain ⟨hx, hb, hml, hown, hts, hK⟩ := C
  exact va_alen (v := zi (n : Int)) hx hb hK.1 hR.1 q0 5 he ty14 rfl hd (kk H locs ls hR hS hl (yok_cons (v := .inl (n : Int)) ⟨by omega, by omega⟩ (yok_tl hk)) ho)
theorem y_bast (C : zC w p s m args c nL cc own) {a q0 k n i : Nat} {x y : Int} {f : Nat → Int32} (hd : decode cc pc = .ok (.bastore, 1)) (he : ws[q0]? = some (a, .inl (zwA w 14, n, .inl f))) (hy : y = (i : Int)) (hi : i < n) (hx : 0 ≤ x ∧ x < 128)
    (kk : yS w p l e R s m args below meth c nL cells slots Q (pc + 1) loc stk (yL w (ws.set q0 (a, .inl (zwA w 14, n, .inl (upd f i (zi x))))))) : yS w p l e R s m args below meth c nL cells slots Q pc loc (.inl x :: .inl y :: .inr (k, a) :: stk) (yL w ws) := by
  subst hy
  intro H locs ls hR hS hl hk ho
  obtain ⟨hx', hb, hml, hown, hts, hK⟩ := C
  have hir : zR (i : Int) := yok_hd (yok_tl hk)
  have e1 : (zi (i : Int)).toNatClampNeg = i := by rw [zi_nat hir]; exact Int.toNat_natCast _
  have e2 : vp_nar .byte (zi x) = zi x := by
    obtain ⟨q, rfl⟩ : ∃ q : Nat, x = (q : Int) := ⟨x.toNat, by omega⟩
    have := (by decide +kernel : ∀ q : Fin 128, vp_nar .byte (zi ((q : Nat) : Int)) = zi ((q : Nat) : Int)) ⟨q, by omega⟩
    exact this
  refine va_bast (i := zi (i : Int)) (x := zi x) hx' hb hK.1 hR.1 hR.2 hS q0 5 he ty14 (zi_in hir (by omega) (by omega)) hd fun H1 locs1 h1 h2 h3 => ?_
  rw [e1, e2] at h1 h2
  exact kk H1 locs1 ls ⟨h1, h2⟩ h3 hl (yok_tl (yok_tl (yok_tl hk))) ho
theorem y_newB (C : zC w p s m args c nL cc own) {N : Nat} (hN : N ≤ 100000) (hA : ∀ q, s.heap.size ≤ q → zA w q) (hcs : cells + 1 ≤ R.cells ∧ slots + N ≤ R.slots) (harr : Cond.arrayClass .byte ∈ zw_T) (hd : decode cc pc = .ok (.newarray .byte, 2))
    (kk : ∀ q : Nat, s.heap.size ≤ q → yS w p l e R s m args below meth c nL (cells + 1) (slots + N) Q (pc + 2) loc (.inr (14, q) :: stk) (yL w (ws ++ [(q, .inl (zwA w 14, N, .inl (fun _ => 0)))]))) : yS w p l e R s m args below meth c nL cells slots Q pc loc (.inl (N : Int) :: stk) (yL w ws) := by
  intro H locs ls hR hS hl hk ho
  obtain ⟨hx, hb, hml, hown, hts, hK⟩ := C
  have hNr : zR (N : Int) := ⟨by omega, by omega⟩
  refine va_newaK (N := N) hx hb (atype := .byte) (hts _ harr) rfl hd rfl ?_ ?_ (by show N * 1 ≤ 536870912; omega) hcs.1 hcs.2 rfl fun H1 cA e1 z1 o1 _ hNm => ?_
  · rw [Int32.lt_iff_toInt_lt, zi_toInt hNr]
    show ¬ (N : Int) < 0
    omega
  · rw [zi_nat hNr]; exact Int.toNat_natCast _
  have hra : s.vm.findClass ("[" ++ FieldType.byte.toString) = some (zwA w 14) := (hK.1.2 5 _ ty14).2
  have hcA : cA = zwA w 14 := Option.some.inj (hNm.symm.trans hra)
  subst hcA
  refine kk H.size hS.1 H1 locs ls ⟨?_, hR.2.push hR.1 rfl (hA _ hS.1)⟩ ⟨by rw [z1]; exact Nat.le_succ_of_le hS.1, fun x q1 q2 => (o1 x (Nat.lt_of_lt_of_le q1 hS.1)).trans (hS.2.1 x q1 q2), hS.2.2⟩ hl (yok_cons (v := .inr (14, H.size)) trivial (yok_tl hk)) ho
  refine (hR.1.kept fun k q hq => o1 q.1 ((hR.1 k q hq).lt)).app fun k q hq => ?_
  have hk0 : k = 0 := by
    have := (List.getElem?_eq_some_iff.mp hq).1
    simpa using this
  subst hk0
  cases hq
  exact e1
theorem y_copy (C : zC w p s m args c nL cc own) {idx k0 k1 a0 a1 q0 q1 n0 n1 sp dp n : Nat} {f g : Nat → Int32} (hd : decode cc pc = .ok (.invokestatic idx, 3)) (hm : Cond.methodLink own idx arraycopyName ∈ zw_T) (h0 : ws[q0]? = some (a0, .inl (zwA w 14, n0, .inl f))) (h1 : ws[q1]? = some (a1, .inl (zwA w 14, n1, .inl g)))
    (hn0 : sp + n ≤ n0) (hn1 : dp + n ≤ n1) (hbig : n0 ≤ 100000 ∧ n1 ≤ 100000) (hfit : sb_Fit f) (hR : 1 ≤ R.frames ∧ stk.length + (nativeFrameWords "java/lang/System" "arraycopy" 5 + 11) ≤ R.locals)
    (kk : yS w p l e R s m args below meth c nL cells slots Q (pc + 3) loc stk (yL w (ws.set q1 (a1, .inl (zwA w 14, n1, .inl (va_cpy f g sp dp n)))))) : yS w p l e R s m args below meth c nL cells slots Q pc loc (.inl (n : Int) :: .inl (dp : Int) :: .inr (k1, a1) :: .inl (sp : Int) :: .inr (k0, a0) :: stk) (yL w ws) := by
  intro H locs ls hR1 hS hl hk ho
  obtain ⟨hx, hb, hml, hown, hts, hK⟩ := C
  have r1 : zR (n : Int) := ⟨by omega, by omega⟩
  have r2 : zR (dp : Int) := ⟨by omega, by omega⟩
  have r3 : zR (sp : Int) := ⟨by omega, by omega⟩
  have c1 : ∀ {k : Nat}, zR (k : Int) → (zi (k : Int)).toNatClampNeg = k := fun h => by rw [zi_nat h]; exact Int.toNat_natCast _
  have ng : ∀ {k : Nat}, zR (k : Int) → ¬ zi (k : Int) < 0 := fun {k} h => by rw [Int32.lt_iff_toInt_lt, zi_toInt h]; show ¬ (k : Int) < 0; omega
  refine va_copyi (sp := zi (sp : Int)) (dp := zi (dp : Int)) (n := zi (n : Int)) hx hb (by rw [hml]; exact hl.1.symm) hown (hts _ hm) (hts _ zmj_cpy.1) (hts _ zmj_cpy.2.1) (hts _ zmj_cpy.2.2) hK.1 hR1.1 hR1.2 hS q0 q1 5 5 h0 h1 ty14 ty14 rfl (ng r3) (ng r2) (ng r1) (by rw [c1 r3, c1 r1]; exact hn0) (by rw [c1 r2, c1 r1]; exact hn1) (fun i _ => ?_) hR.1 (by rw [zsum_len]; exact hR.2) hd fun H1 locs1 p1 p2 p3 => ?_
  · exact hfit _
  · rw [c1 r1, c1 r2, c1 r3] at p1 p2
    exact kk H1 locs1 ls ⟨p1, p2⟩ p3 hl (fun u hu => hk u (List.mem_cons_of_mem _ (List.mem_cons_of_mem _ (List.mem_cons_of_mem _ (List.mem_cons_of_mem _ (List.mem_cons_of_mem _ hu)))))) ho
theorem y_copyT (C : zC w p s m args c nL cc own) {idx k0 k1 a1 q1 n1 dp : Nat} {g : Nat → Int32} (hd : decode cc pc = .ok (.invokestatic idx, 3)) (hm : Cond.methodLink own idx arraycopyName ∈ zw_T) (h1 : ws[q1]? = some (a1, .inl (zwA w 14, n1, .inl g)))
    (hn1 : dp + (zwTl w).length ≤ n1) (hbig : n1 ≤ 100000) (hR : 1 ≤ R.frames ∧ stk.length + (nativeFrameWords "java/lang/System" "arraycopy" 5 + 11) ≤ R.locals)
    (kk : yS w p l e R s m args below meth c nL cells slots Q (pc + 3) loc stk (yL w (ws.set q1 (a1, .inl (zwA w 14, n1, .inl (va_cpy (fun j => (zwTl w).getD j 0) g 0 dp (zwTl w).length)))))) : yS w p l e R s m args below meth c nL cells slots Q pc loc (.inl ((zwTl w).length : Int) :: .inl (dp : Int) :: .inr (k1, a1) :: .inl 0 :: .inr (k0, zwS w 71) :: stk) (yL w ws) := by
  have hT := zTk C
  intro H locs ls hR1 hS hl hk ho
  obtain ⟨hx, hb, hml, hown, hts, hK⟩ := C
  generalize hn : (zwTl w).length = n at *
  have r1 : zR (n : Int) := ⟨by omega, by omega⟩
  have r2 : zR (dp : Int) := ⟨by omega, by omega⟩
  have c1 : ∀ {k : Nat}, zR (k : Int) → (zi (k : Int)).toNatClampNeg = k := fun h => by rw [zi_nat h]; exact Int.toNat_natCast _
  have ng : ∀ {k : Nat}, zR (k : Int) → ¬ zi (k : Int) < 0 := fun {k} h => by rw [Int32.lt_iff_toInt_lt, zi_toInt h]; show ¬ (k : Int) < 0; omega
  have c0 : (zi 0).toNatClampNeg = 0 := by decide
  have hT9 := (hK.2.2.1.2.2.2.2.2.2.2.2.2.1.2.1 0 Nat.zero_lt_one).2.2.2
  refine vk_copyt (n0 := n) (f := fun j => (zwTl w).getD j 0) (sp := zi 0) (dp := zi (dp : Int)) (n := zi (n : Int)) hx hb (by rw [hml]; exact hl.1.symm) hown (hts _ hm) (hts _ zmj_cpy.1) (hts _ zmj_cpy.2.1) (hts _ zmj_cpy.2.2) hK.1 hR1.1 hR1.2 hS (by rw [← hn]; exact hT9) q1 5 h1 ty14 (by decide) (ng r2) (ng r1) (by rw [c0, c1 r1]; omega) (by rw [c1 r2, c1 r1]; exact hn1) (fun i hi => ?_) hR.1 (by rw [zsum_len]; exact hR.2) hd fun H1 locs1 p1 p2 p3 => ?_
  · rw [c1 r1] at hi
    rw [c0, Nat.zero_add]
    have hm9 : (zwTl w).getD i 0 ∈ zwTl w := by
      rw [List.getD_eq_getElem?_getD, List.getElem?_eq_getElem (by omega)]
      exact List.getElem_mem _
    exact y_fits (hT.2 _ hm9)
  · rw [c1 r1, c1 r2, c0] at p1 p2
    exact kk H1 locs1 ls ⟨p1, p2⟩ p3 hl (fun u hu => hk u (List.mem_cons_of_mem _ (List.mem_cons_of_mem _ (List.mem_cons_of_mem _ (List.mem_cons_of_mem _ (List.mem_cons_of_mem _ hu)))))) ho
theorem y_clone (C : zC w p s m args c nL cc own) {idx k a q0 n : Nat} {f : Nat → Int32} (hd : decode cc pc = .ok (.invokevirtual idx, 3)) (hA : ∀ q, s.heap.size ≤ q → zA w q) (he : ws[q0]? = some (a, .inl (zwA w 14, n, .inl f))) (hfit : sb_Fit f) (hcl : va_Nw (.castable "[B" "java/lang/Cloneable") s)
    (hm : Cond.methodLink own idx ⟨"[B", "clone", "()Ljava/lang/Object;"⟩ ∈ zw_T ∧ Cond.sameMethod "[B" "java/lang/Object" "clone" "()Ljava/lang/Object;" ∈ zw_T ∧ Cond.native ⟨"java/lang/Object", "clone", "()Ljava/lang/Object;"⟩ ∈ zw_T ∧ Cond.instanceMethod ⟨"java/lang/Object", "clone", "()Ljava/lang/Object;"⟩ ∈ zw_T ∧ Cond.selects "[B" ⟨"[B", "clone", "()Ljava/lang/Object;"⟩ ⟨"java/lang/Object", "clone", "()Ljava/lang/Object;"⟩ ∈ zw_T)
    (hR : 1 ≤ R.frames ∧ stk.length + 14 ≤ R.locals) (hcs : cells + 1 ≤ R.cells ∧ slots + n ≤ R.slots)
    (kk : ∀ q : Nat, yS w p l e R s m args below meth c nL (cells + 1) (slots + n) Q (pc + 3) loc (.inr (14, q) :: stk) (yL w (ws ++ [(q, .inl (zwA w 14, n, .inl f))]))) : yS w p l e R s m args below meth c nL cells slots Q pc loc (.inr (k, a) :: stk) (yL w ws) := by
  intro H locs ls hR1 hS hl hk ho
  obtain ⟨hx, hb, hml, hown, hts, hK⟩ := C
  have hra : s.vm.findClass "[B" = some (zwA w 14) := (hK.1.2 5 _ ty14).2
  refine va_clone (x := (n, .inl f)) hx hb (by rw [hml]; exact hl.1.symm) hown (hts _ hm.1) (hts _ hm.2.1) (hts _ hm.2.2.1) (hts _ hm.2.2.2.1) (hts _ hm.2.2.2.2) hcl hK.1 hR1.1 hR1.2 hS hA q0 5 he ty14 hra (fun i v hv => ?_) hR.1 (by rw [zsum_len]; exact hR.2) hcs.1 hcs.2 hd fun q H1 _ p1 p2 p3 => ?_
  · have hv' : (arrV (zwA w 14) n (fun j => .int (f j))).slots[i]? = some v := by
      rw [← hv]
      rfl
    have hi : i < n := by
      have := (Array.getElem?_eq_some_iff.mp hv').1
      rwa [arrV_size] at this
    rw [arrV_read _ _ hi] at hv'
    cases hv'
    exact hfit i
  · exact kk q H1 locs ls ⟨p1, p2⟩ p3 hl (yok_cons (v := .inr (14, q)) trivial (yok_tl hk)) ho
theorem y_castB (C : zC w p s m args c nL cc own) {idx k a q0 n : Nat} {f : Nat → Int32} (hd : decode cc pc = .ok (.checkcast idx, 3)) (hm : Cond.classLink own idx "[B" ∈ zw_T) (he : ws[q0]? = some (a, .inl (zwA w 14, n, .inl f)))
    (kk : yS w p l e R s m args below meth c nL cells slots Q (pc + 3) loc (.inr (k, a) :: stk) (yL w ws)) : yS w p l e R s m args below meth c nL cells slots Q pc loc (.inr (k, a) :: stk) (yL w ws) := by
  intro H locs ls hR1 hS hl hk ho
  obtain ⟨hx, hb, hml, hown, hts, hK⟩ := C
  have hra : s.vm.findClass "[B" = some (zwA w 14) := (hK.1.2 5 _ ty14).2
  exact va_castA hx hb hown (hts _ hm) hR1.1 q0 he hra hd (kk H locs ls hR1 hS hl hk ho)
theorem y_vret {mc ms : Nat} {post : Option zv → (Heap → Prop) → Prop} (C : zC w p s m args c nL cc own) (hr : meth.sig.returnType = none) (hlk : meth.locks = false) (hcs : cells ≤ mc ∧ slots ≤ ms) (hd : decode cc pc = .ok (.return_, 1)) (hp : post none G) : yS w p l e R s m args below meth c nL cells slots (MQ below (yQ w post) args s mc ms (zA w)) pc loc [] G := by
  intro H locs ls hR hS hl hk ho
  obtain ⟨hx, hb, hml, hown, hts, hK⟩ := C
  exact W.widen hcs.1 hcs.2 (W.vret hx hb hr (fun t ht hW => ⟨⟨none, G, rfl, hp, by rw [ht]; exact hR, fun v hv => by cases hv⟩, hS.F ht⟩) hS.2.2 hd hlk)
theorem y_nret {mc ms : Nat} {post : Option zv → (Heap → Prop) → Prop} (C : zC w p s m args c nL cc own) {x : Int} {ty : FieldType} (hr : meth.sig.returnType = some ty) (hlk : meth.locks = false) (hn : narrow ty (.int (zi x)) = .int (zi x)) (hcs : cells ≤ mc ∧ slots ≤ ms) (hd : decode cc pc = .ok (.ireturn, 1)) (hp : post (some (.inl x)) G) : yS w p l e R s m args below meth c nL cells slots (MQ below (yQ w post) args s mc ms (zA w)) pc loc [.inl x] G := by
  intro H locs ls hR hS hl hk ho
  obtain ⟨hx, hb, hml, hown, hts, hK⟩ := C
  exact W.widen hcs.1 hcs.2 (W.zret (v := zi x) (ty := ty) hx hb hr hn (fun t ht hW => ⟨⟨some (.inl x), G, rfl, hp, by rw [ht]; exact hR, fun v hv => by cases hv; exact yok_hd hk⟩, hS.F ht⟩) hS.2.2 hd hlk)
theorem y_aret {mc ms : Nat} {post : Option zv → (Heap → Prop) → Prop} (C : zC w p s m args c nL cc own) {q : Nat × Nat} {rt : FieldType} (hr : meth.sig.returnType = some rt) (hrt : (∃ n, rt = .object n) ∨ ∃ t, rt = .array t) (hlk : meth.locks = false) (hcs : cells ≤ mc ∧ slots ≤ ms) (hd : decode cc pc = .ok (.areturn, 1)) (hp : post (some (.inr q)) G) : yS w p l e R s m args below meth c nL cells slots (MQ below (yQ w post) args s mc ms (zA w)) pc loc [.inr q] G := by
  intro H locs ls hR hS hl hk ho
  obtain ⟨hx, hb, hml, hown, hts, hK⟩ := C
  exact W.widen hcs.1 hcs.2 (W.aret (v := .ref q.2) hx hb hr hrt (Or.inr ⟨q.2, rfl⟩) (fun t ht hW => ⟨⟨some (.inr q), G, rfl, hp, by rw [ht]; exact hR, fun v hv => by cases hv; trivial⟩, hS.F ht⟩) hS.2.2 hd hlk)
end YH
