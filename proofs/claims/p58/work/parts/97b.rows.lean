/-! Rows of the law's own methods that make texts. -/
theorem yL_swap {w : zW} {a b : va_W} {H : Heap} (h : yL w (a ++ b) H) : yL w (b ++ a) H := ⟨va_P.swap (a := []) h.1, va_D.swap (a := []) h.2⟩
theorem yL_swap3 {w : zW} {a b c : va_W} {H : Heap} (h : yL w (a ++ (b ++ c)) H) : yL w (b ++ (a ++ c)) H := by
  have h1 : yL w ((b ++ c) ++ a) H := yL_swap h
  have h2 : yL w ((b ++ a) ++ c) H := ⟨va_P.swap h1.1, va_D.swap h1.2⟩
  rw [List.append_assoc] at h2
  exact h2
theorem yL_left {w : zW} {a b : va_W} {H : Heap} (h : yL w (a ++ b) H) : yL w a H :=
  ⟨h.1.by (fun k => k) fun k q hk => by rw [List.getElem?_append_left (List.getElem?_eq_some_iff.mp hk).1]; exact hk,
   h.2.by (fun k => k) (fun k q hk => by rw [List.getElem?_append_left (List.getElem?_eq_some_iff.mp hk).1]; exact hk) fun i j _ _ h => h⟩
theorem yL_right {w : zW} {a b : va_W} {H : Heap} (h : yL w (a ++ b) H) : yL w b H := yL_left (yL_swap h)
/-- a callee's new cells beside those that it could not reach -/
theorem yL_join {w wc : zW} {ws0 w1 strs : va_W} {H0 H1 : Heap} (hD : zwD wc = zwD w) (h0 : yL w ws0 H0) (hs : va_D (zA w) strs) (hO : ∀ (k : Nat) (q : Nat × va_E), strs[k]? = some q → (∃ k0 : Nat, ws0[k0]? = some q) ∧ ¬ zA wc q.1) (hA : ∀ q, zA wc q → zA w q)
    (h1 : yL wc w1 H1) (hk : ∀ q, q < H0.size → ¬ zA wc q → H1[q]? = H0[q]?) : yL w (w1 ++ strs) H1 := by
  have hP1 : va_P (zwD w) vwCl w1 H1 := by rw [← hD]; exact h1.1
  refine ⟨hP1.app fun k q hq => ?_, va_D.app (h1.2.weaken fun _ _ _ hz => hA _ hz) hs fun i j x y hi hj he => ?_⟩
  · obtain ⟨⟨k0, hk0⟩, hn⟩ := hO k q hq
    exact (h0.1 k0 q hk0).kept (hk q.1 (h0.1 k0 q hk0).lt hn)
  · exact (hO j y hj).2 (by rw [← he]; exact h1.2.2 i x hi)
theorem yBS_drop {w : zW} {b : Nat} {T : List Int32} {a c : va_W} {H : Heap} (h : yBS w b T (a ++ c) H) : yBS w b T c H := by
  obtain ⟨da, m, f, h1, h2⟩ := h
  rw [← List.append_assoc] at h2
  refine ⟨da, m, f, h1, ?_⟩
  have h3 := yL_swap h2
  rw [← List.append_assoc] at h3
  exact yL_swap (yL_left h3)
def yU2 (b N : Nat) : Nat → Prop := fun q => q = b ∨ N ≤ q
def yU1 (N : Nat) : Nat → Prop := fun q => N ≤ q
theorem yOk_B : ∀ i, i < 12 → yOk (ySB.getD i []) ∧ ySL.getD i 0 = (ySB.getD i []).length := by
  intro i hi
  have h : ∀ i : Fin 12, (ySB.getD i []).length ≤ 100000 ∧ (∀ x ∈ ySB.getD i [], 0 ≤ x.toInt ∧ x.toInt < 128) ∧ ySL.getD i 0 = (ySB.getD i []).length := by decide +kernel
  exact ⟨⟨(h ⟨i, hi⟩).1, (h ⟨i, hi⟩).2.1⟩, (h ⟨i, hi⟩).2.2⟩
section YR
variable {w wc : zW} {p : Program} {l : Launch} {e : Env} {R : Room} {s : State} {m : MethodId} {args : Array Value} {below : List Frame} {meth : Method} {c : Code} {nL cells slots : Nat} {Q : State → Prop}
variable {cc : ByteArray} {own : String} {pc : Nat} {loc : List (Option zv)} {stk : List zv} {G : Heap → Prop} {ws : va_W}
theorem y_ldcS (C : zC w p s m args c nL cc own) (hX : yX w s s.heap) {idx i : Nat} {tx : String} (ho9 : own = RL) (hd : decode cc pc = .ok (.ldc idx, 2)) (hm : (idx, i, tx) ∈ ySR)
    (kk : yS w p l e R s m args below meth c nL cells slots Q (pc + 2) loc (.inr (30, zwS w (80 + i)) :: stk) G) : yS w p l e R s m args below meth c nL cells slots Q pc loc stk G := by
  subst ho9
  intro H locs ls hR hS hl hk ho
  obtain ⟨hx, hb, hml, hown, hts, hK⟩ := C
  exact va_ldcS hx hb hown (hX.1.2.2 _ hm) hd (kk H locs ls hR hS hl (yok_cons (v := .inr (30, zwS w (80 + i))) trivial hk) ho)
/-- a string of the law's own, as a text -/
theorem yT_const (hX : yX w s s.heap) {i : Nat} (hi : i < 12) {H : Heap} {locs : List Loc} {A : Nat → Prop} (hA : ∀ a, A a → zA w a) (hS : va_S (zA w) s.heap H locs) : yT (zwS w (80 + i)) (zwS w (100 + i)) (ySB.getD i []) A s H := by
  have h1 := (vk_S.kept hX.2.1 (fun a h1 h2 => hS.2.1 a h1 h2)).narrow hA
  have h2 := h1.1 i hi
  refine ⟨fun j hj => ?_, fun j j2 hj hj2 _ => by omega⟩
  obtain rfl : j = 0 := by omega
  refine ⟨h2.1, h2.2.1, h2.2.2.1, ?_⟩
  have h3 := h2.2.2.2
  rw [(yOk_B i hi).2] at h3
  exact h3
theorem y_apK (C : zC w p s m args c nL cc own) (hX : yX w s s.heap) (hN0 : ∀ q, s.heap.size ≤ q → zA w q) {idx b i : Nat} {T : List Int32} {strs : va_W} {rest : List zv} (hi : i < 12) (hd : decode cc pc = .ok (.invokevirtual idx, 3)) (hm : yMV own idx yJ4_append_15ec4 cJ4_append_15ec4 2 (some (.object "java/lang/StringBuilder")) 1)
    (hl9 : T.length + (ySB.getD i []).length ≤ 1500) (hR : 6 ≤ R.frames ∧ 8 + (2 + 11) + 190 ≤ R.locals) (hcs : cells + 1 ≤ R.cells ∧ slots + 3000 ≤ R.slots) (hk8 : rest.length ≤ 8)
    (kk : yS w p l e R s m args below meth c nL (cells + 1) (slots + 3000) Q (pc + 3) loc (.inr (8, b) :: rest) (yBS w b (T ++ ySB.getD i []) strs)) : yS w p l e R s m args below meth c nL cells slots Q pc loc (.inr (30, zwS w (80 + i)) :: .inr (8, b) :: rest) (yBS w b T strs) :=
  y_apS (qa := zwS w (100 + i)) C hX hN0 hd hm (yOk_B i hi).1 hl9 (fun H locs da m0 f hG hS => yT_const hX hi (fun a ha => by
    have hbd := yBS_A hG
    rcases ha with rfl | rfl | h
    · exact hbd.1
    · exact hbd.2
    · exact hN0 a (Nat.le_trans hS.1 h)) hS) hR hcs hk8 kk
/-- append of a text among the cells at hand -/
theorem y_apD (C : zC w p s m args c nL cc own) (hX : yX w s s.heap) (hN0 : ∀ q, s.heap.size ≤ q → zA w q) {idx b q qa kq n0 : Nat} {g : Nat → Int32} {T u : List Int32} {s1 s2 : va_W} {rest : List zv} (hd : decode cc pc = .ok (.invokevirtual idx, 3)) (hm : yMV own idx yJ4_append_15ec4 cJ4_append_15ec4 2 (some (.object "java/lang/StringBuilder")) 1)
    (hu : yOk u) (hl9 : T.length + u.length ≤ 1500) (hn0 : n0 = u.length) (hg : yHs u g) (hR : 6 ≤ R.frames ∧ 8 + (2 + 11) + 190 ≤ R.locals) (hcs : cells + 1 ≤ R.cells ∧ slots + 3000 ≤ R.slots) (hk8 : rest.length ≤ 8)
    (kk : yS w p l e R s m args below meth c nL (cells + 1) (slots + 3000) Q (pc + 3) loc (.inr (8, b) :: rest) (yBS w b (T ++ u) (s1 ++ (yStr w q qa n0 g ++ s2)))) : yS w p l e R s m args below meth c nL cells slots Q pc loc (.inr (kq, q) :: .inr (8, b) :: rest) (yBS w b T (s1 ++ (yStr w q qa n0 g ++ s2))) := by
  subst hn0
  refine y_apS (qa := qa) C hX hN0 hd hm hu hl9 (fun H locs da m0 f hG hS => ?_) hR hcs hk8 kk
  have h1 : (yW w b da m0 T.length f ++ (s1 ++ (yStr w q qa u.length g ++ s2)))[2 + s1.length]? = some (q, .inr (9, [zval (.inr (14, qa)), zval (.inl 0), zval (.inl 0), zval (.inl 0)])) := by
    rw [List.getElem?_append_right (show (yW w b da m0 T.length f).length ≤ 2 + s1.length from Nat.le_add_right 2 _), show 2 + s1.length - (yW w b da m0 T.length f).length = s1.length from Nat.add_sub_cancel_left (n := 2) (m := s1.length), List.getElem?_append_right (Nat.le_refl _), Nat.sub_self]
    rfl
  have h2 : (yW w b da m0 T.length f ++ (s1 ++ (yStr w q qa u.length g ++ s2)))[2 + (s1.length + 1)]? = some (qa, .inl (zwA w 14, u.length, .inl g)) := by
    rw [List.getElem?_append_right (show (yW w b da m0 T.length f).length ≤ 2 + (s1.length + 1) from Nat.le_add_right 2 _), show 2 + (s1.length + 1) - (yW w b da m0 T.length f).length = s1.length + 1 from Nat.add_sub_cancel_left (n := 2) (m := s1.length + 1), List.getElem?_append_right (by omega), Nat.add_sub_cancel_left]
    rfl
  refine yT_of C hG h1 h2 hg.2 ?_ ?_
  · rintro (z | z | z)
    · have := hG.2.1 (2 + s1.length) 0 _ _ h1 rfl z
      omega
    · have := hG.2.1 (2 + s1.length) 1 _ _ h1 rfl z
      omega
    · have := (hG.1 _ _ h1).lt
      exact absurd z (Nat.not_le.mpr this)
  · rintro (z | z | z)
    · have := hG.2.1 (2 + (s1.length + 1)) 0 _ _ h2 rfl z
      omega
    · have := hG.2.1 (2 + (s1.length + 1)) 1 _ _ h2 rfl z
      omega
    · have := (hG.1 _ _ h2).lt
      exact absurd z (Nat.not_le.mpr this)
/-- the builder's method that takes no text -/
theorem y_apN (C : zC w p s m args c nL cc own) (hX : yX w s s.heap) (hN0 : ∀ q, s.heap.size ≤ q → zA w q) {idx b k n : Nat} {y : MethodName} {bt : ByteArray} {ret : Option FieldType} {T u : List Int32} {As rest : List zv} {strs : va_W} (hy : y.cls = RJ4) (hd : decode cc pc = .ok (.invokevirtual idx, 3)) (hm : yMV own idx y bt n ret k)
    (hc : ∀ (wc : zW) (da m0 : Nat) (f : Nat → Int32), yHold T m0 f → yCt wc l y bt n ret 5 190 1 3000 (.inr (8, b) :: As) (yL wc (yW wc b da m0 T.length f)) (fun r G1 => r = some (.inr (8, b)) ∧ yPB wc b (T ++ u) G1))
    (hs : stk = As.reverse ++ .inr (8, b) :: rest) (hR : 6 ≤ R.frames ∧ 8 + (n + 11) + 190 ≤ R.locals) (hcs : cells + 1 ≤ R.cells ∧ slots + 3000 ≤ R.slots) (hk8 : As.length = k ∧ rest.length ≤ 8)
    (kk : yS w p l e R s m args below meth c nL (cells + 1) (slots + 3000) Q (pc + 3) loc (.inr (8, b) :: rest) (yBS w b (T ++ u) strs)) : yS w p l e R s m args below meth c nL cells slots Q pc loc stk (yBS w b T strs) := by
  refine y_ex fun da => y_ex fun m0 => y_ex fun f => ?_
  refine y_fact (P := yHold T m0 f) (fun H h => h.1) fun hh => ?_
  refine y_to (G' := yL w (yW w b da m0 T.length f ++ strs)) (fun H h => h.2) ?_
  refine y_fact (P := zA w b ∧ zA w da) (fun H h => yBS_A h) fun hbd => ?_
  refine y_size fun N hN => ?_
  have hAu : ∀ a, yU3 b da N a → zA w a := fun a ha => by
    rcases ha with rfl | rfl | h
    · exact hbd.1
    · exact hbd.2
    · exact hN0 a (Nat.le_trans hN h)
  have hA : ∀ a, zA (zPu w (yU3 b da N)) a → zA w a := fun a ha => hAu a (zPu_A.mp ha)
  refine y_callV (wc := zPu w (yU3 b da N)) (kd := 8) (As := As) (rest := rest) (Gc := yL (zPu w (yU3 b da N)) (yW w b da m0 T.length f)) C hd hm hA (hc _ da m0 f hh) (fun H locs hG hS => ⟨?_, fun U hU hW => ⟨?_, ?_, ?_⟩⟩) hs hR hcs hk8 (fun r G1 hp => ?_)
  · rw [hy]
    exact y_recv (ci := 8) (q0 := 0) C rfl hG.1 rfl
  · exact zPu_Kn hAu (yKn.warm hW hS hU ⟨C.2.2.2.2.2, hX⟩)
  · intro a ha
    exact zPu_A.mpr (Or.inr (Or.inr (by rw [← hG.2, ← hU]; exact ha)))
  · rw [hU]
    have h1 := yL_left hG.1
    refine ⟨h1.1, h1.2.1, fun k x hx => ?_⟩
    have hk2 : k < 2 := (List.getElem?_eq_some_iff.mp hx).1
    match k, hk2 with
    | 0, _ => cases hx; exact zPu_A.mpr (Or.inl rfl)
    | 1, _ => cases hx; exact zPu_A.mpr (Or.inr (Or.inl rfl))
  · obtain ⟨rfl, da1, m1, f1, rfl, hh1⟩ := hp
    refine y_to (G' := yBS w b (T ++ u) strs) (fun H1 h => ?_) kk
    obtain ⟨h1, H0, hG0, hsz, hk⟩ := h
    exact ⟨da1, m1, f1, hh1, yBS_step (wc := zPu w (yU3 b da N)) rfl hG0.1 hG0.2 (fun q hq => zPu_A.mp hq) hA h1 hk⟩
/-- new StringBuilder(): three instructions -/
theorem y_newSB (C : zC w p s m args c nL cc own) (hX : yX w s s.heap) (hN0 : ∀ q, s.heap.size ≤ q → zA w q) {idx idx2 : Nat} (hcl : Cond.classLink own idx RJ4 ∈ zw_T) (hinst : Cond.instantiable RJ4 4 ∈ zw_T) (hini : Cond.initialized RJ4 ∈ zw_T) (hm : yMI own idx2 yJ4_init_da8c8 cJ4_init_da8c8 1 0)
    (hd : decode cc pc = .ok (.new idx, 3)) (hd2 : decode cc (pc + 3) = .ok (.dup, 1)) (hd3 : decode cc (pc + 3 + 1) = .ok (.invokespecial idx2, 3)) (hR : 3 ≤ R.frames ∧ 8 + (1 + 11) + 60 ≤ R.locals) (hcs : cells + 2 ≤ R.cells ∧ slots + 20 ≤ R.slots) (hk8 : stk.length ≤ 7)
    (kk : ∀ b : Nat, yS w p l e R s m args below meth c nL (cells + 2) (slots + 20) Q (pc + 7) loc (.inr (8, b) :: stk) (yBS w b [] ws)) : yS w p l e R s m args below meth c nL cells slots Q pc loc stk (yL w ws) := by
  refine y_new (ci := 8) (N := 4) (fs := yF0) (ty0 := tyJ4) C hN0 rfl inTJ4 tyJ4_ok (by decide) hcl hinst hini ⟨by omega, by omega⟩ hd (fun b => ?_)
  refine y_dup C hd2 ?_
  refine y_fact (P := zA w b ∧ ∀ (k : Nat) (q : Nat × va_E), ws[k]? = some q → q.1 ≠ b) (fun H h => ⟨(yL_right h).2.2 0 _ rfl, fun k q hq z => ?_⟩) fun hbd => ?_
  · have := h.2.1 k ws.length q _ (by rw [List.getElem?_append_left (List.getElem?_eq_some_iff.mp hq).1]; exact hq) (by rw [List.getElem?_append_right (Nat.le_refl _), Nat.sub_self]; rfl) z
    have h2 := (List.getElem?_eq_some_iff.mp hq).1
    omega
  refine y_size fun N hN => ?_
  have hAu : ∀ a, yU2 b N a → zA w a := fun a ha => by
    rcases ha with rfl | h
    · exact hbd.1
    · exact hN0 a (Nat.le_trans hN h)
  have hA : ∀ a, zA (zPu w (yU2 b N)) a → zA w a := fun a ha => hAu a (zPu_A.mp ha)
  refine y_callI (wc := zPu w (yU2 b N)) (kd := 8) (k := 0) (As := []) (rest := .inr (8, b) :: stk) (Gc := yL (zPu w (yU2 b N)) [(b, .inr (8, yF0))]) C hd3 hm hA (c_J4_init (zPu w (yU2 b N)) l b) (fun H locs hG hS U hU hW => ⟨?_, ?_, ?_⟩) rfl hR ⟨hcs.1, by omega⟩ ⟨rfl, by simpa using hk8⟩ (fun r G1 hp => ?_)
  · exact zPu_Kn hAu (yKn.warm hW hS hU ⟨C.2.2.2.2.2, hX⟩)
  · intro a ha
    exact zPu_A.mpr (Or.inr (by rw [← hG.2, ← hU]; exact ha))
  · rw [hU]
    have h1 := yL_right hG.1
    refine ⟨h1.1, h1.2.1, fun k x hx => ?_⟩
    have hk2 : k < 1 := (List.getElem?_eq_some_iff.mp hx).1
    obtain rfl : k = 0 := by omega
    cases hx
    exact zPu_A.mpr (Or.inl rfl)
  · obtain ⟨rfl, da1, m1, f1, rfl, hh1⟩ := hp
    have kk2 := kk b
    refine y_to (G' := yBS w b [] ws) (fun H1 h => ?_) kk2
    obtain ⟨h1, H0, hG0, hsz, hk⟩ := h
    have hl := yL_left hG0.1
    exact ⟨da1, m1, f1, hh1, yL_join (wc := zPu w (yU2 b N)) (w := w) rfl hl hl.2 (fun k q hq => ⟨⟨k, hq⟩, fun z => by
      rcases zPu_A.mp z with h9 | h9
      · exact hbd.2 k q hq h9
      · have := (hl.1 k q hq).lt
        rw [hG0.2] at this
        exact absurd h9 (Nat.not_le.mpr this)⟩) hA h1 hk⟩
/-- toString -/
theorem y_toS (C : zC w p s m args c nL cc own) (hX : yX w s s.heap) (hN0 : ∀ q, s.heap.size ≤ q → zA w q) {idx b : Nat} {T : List Int32} {strs : va_W} {rest : List zv} (hd : decode cc pc = .ok (.invokevirtual idx, 3)) (hm : yMV own idx yJ4_toString_0e30d cJ4_toString_0e30d 1 (some (.object "java/lang/String")) 0)
    (hl9 : T.length ≤ 1500) (hR : 6 ≤ R.frames ∧ 8 + (1 + 11) + 230 ≤ R.locals) (hcs : cells + 2 ≤ R.cells ∧ slots + 1504 ≤ R.slots) (hk8 : rest.length ≤ 8)
    (kk : ∀ (qs qa : Nat) (g : Nat → Int32), yHs T g → yS w p l e R s m args below meth c nL (cells + 2) (slots + 1504) Q (pc + 3) loc (.inr (9, qs) :: rest) (yL w (yStr w qs qa T.length g ++ strs))) : yS w p l e R s m args below meth c nL cells slots Q pc loc (.inr (8, b) :: rest) (yBS w b T strs) := by
  refine y_ex fun da => y_ex fun m0 => y_ex fun f => ?_
  refine y_fact (P := yHold T m0 f) (fun H h => h.1) fun hh => ?_
  refine y_to (G' := yL w (yW w b da m0 T.length f ++ strs)) (fun H h => h.2) ?_
  refine y_fact (P := zA w b ∧ zA w da) (fun H h => yBS_A h) fun hbd => ?_
  refine y_fact (P := ∀ (k : Nat) (q : Nat × va_E), strs[k]? = some q → q.1 ≠ b ∧ q.1 ≠ da) (fun H h k q hq => ?_) fun hne => ?_
  · have h2 : (yW w b da m0 T.length f ++ strs)[k + 2]? = some q := by
      rw [List.getElem?_append_right (show (yW w b da m0 T.length f).length ≤ k + 2 from Nat.le_add_left 2 k)]
      exact hq
    refine ⟨fun z => ?_, fun z => ?_⟩
    · have := h.2.1 (k + 2) 0 q _ h2 rfl z
      omega
    · have := h.2.1 (k + 2) 1 q _ h2 rfl z
      omega
  refine y_size fun N hN => ?_
  have hAu : ∀ a, yU3 b da N a → zA w a := fun a ha => by
    rcases ha with rfl | rfl | h
    · exact hbd.1
    · exact hbd.2
    · exact hN0 a (Nat.le_trans hN h)
  have hA : ∀ a, zA (zPu w (yU3 b da N)) a → zA w a := fun a ha => hAu a (zPu_A.mp ha)
  refine y_callV (wc := zPu w (yU3 b da N)) (kd := 8) (k := 0) (As := []) (rest := rest) (Gc := yL (zPu w (yU3 b da N)) (yW w b da m0 T.length f)) C hd hm hA (c_J4_toString (zPu w (yU3 b da N)) l b da m0 T f hh hl9) (fun H locs hG hS => ⟨y_recv (ci := 8) (q0 := 0) C rfl hG.1 rfl, fun U hU hW => ⟨?_, ?_, ?_⟩⟩) rfl hR hcs ⟨rfl, hk8⟩ (fun r G1 hp => ?_)
  · exact zPu_Kn hAu (yKn.warm hW hS hU ⟨C.2.2.2.2.2, hX⟩)
  · intro a ha
    exact zPu_A.mpr (Or.inr (Or.inr (by rw [← hG.2, ← hU]; exact ha)))
  · rw [hU]
    have h1 := yL_left hG.1
    refine ⟨h1.1, h1.2.1, fun k x hx => ?_⟩
    have hk2 : k < 2 := (List.getElem?_eq_some_iff.mp hx).1
    match k, hk2 with
    | 0, _ => cases hx; exact zPu_A.mpr (Or.inl rfl)
    | 1, _ => cases hx; exact zPu_A.mpr (Or.inr (Or.inl rfl))
  · obtain ⟨qs, qa, g, rfl, rfl, h8, h9⟩ := hp
    refine y_to (G' := yL w (yStr w qs qa T.length g ++ strs)) (fun H1 h => ?_) (kk qs qa g ⟨h8, h9⟩)
    obtain ⟨h1, H0, hG0, hsz, hk⟩ := h
    have hr := yL_right hG0.1
    have hj := yL_join (wc := zPu w (yU3 b da N)) (w := w) rfl hr hr.2 (fun k q hq => ⟨⟨k, hq⟩, fun z => by
      rcases zPu_A.mp z with h9 | h9 | h9
      · exact (hne k q hq).1 h9
      · exact (hne k q hq).2 h9
      · have := (hr.1 k q hq).lt
        rw [hG0.2] at this
        exact absurd h9 (Nat.not_le.mpr this)⟩) hA h1 hk
    rw [List.append_assoc] at hj
    exact yL_right hj
end YR
