/-! Texts and builders as the law's own methods see them. -/
/-- a row g holds the letters u -/
def yHs (u : List Int32) (g : Nat → Int32) : Prop := sb_Fit g ∧ ∀ i, i < u.length → g i = u.getD i 0
/-- letters that a text may have -/
def yOk (u : List Int32) : Prop := u.length ≤ 100000 ∧ ∀ x ∈ u, 0 ≤ x.toInt ∧ x.toInt < 128
/-- a builder that holds T, beside the cells strs -/
def yBS (w : zW) (b : Nat) (T : List Int32) (strs : va_W) (H : Heap) : Prop := ∃ (da m : Nat) (f : Nat → Int32), yHold T m f ∧ yL w (yW w b da m T.length f ++ strs) H
section YT
variable {w wc : zW} {p : Program} {l : Launch} {e : Env} {R : Room} {s : State} {m : MethodId} {args : Array Value} {below : List Frame} {meth : Method} {c : Code} {nL cells slots : Nat} {Q : State → Prop}
variable {cc : ByteArray} {own : String} {pc : Nat} {loc : List (Option zv)} {stk : List zv} {G : Heap → Prop} {ws : va_W}
theorem y_ex {α : Type} {Gx : α → Heap → Prop} (kk : ∀ x, yS w p l e R s m args below meth c nL cells slots Q pc loc stk (Gx x)) : yS w p l e R s m args below meth c nL cells slots Q pc loc stk (fun H => ∃ x, Gx x H) := by
  intro H locs ls hR hS hl hk ho
  obtain ⟨x, hx⟩ := hR
  exact kk x H locs ls hx hS hl hk ho
theorem y_fact {P : Prop} (hP : ∀ H, G H → P) (kk : P → yS w p l e R s m args below meth c nL cells slots Q pc loc stk G) : yS w p l e R s m args below meth c nL cells slots Q pc loc stk G := by
  intro H locs ls hR hS hl hk ho
  exact kk (hP H hR) H locs ls hR hS hl hk ho
theorem y_size (kk : ∀ N, s.heap.size ≤ N → yS w p l e R s m args below meth c nL cells slots Q pc loc stk (fun H => G H ∧ H.size = N)) : yS w p l e R s m args below meth c nL cells slots Q pc loc stk G := by
  intro H locs ls hR hS hl hk ho
  exact kk H.size hS.1 H locs ls ⟨hR, rfl⟩ hS hl hk ho
/-- the kind of a reference at hand is a remark only -/
theorem y_kind {k k' q : Nat} (kk : yS w p l e R s m args below meth c nL cells slots Q pc loc (.inr (k', q) :: stk) G) : yS w p l e R s m args below meth c nL cells slots Q pc loc (.inr (k, q) :: stk) G := by
  intro H locs ls hR hS hl hk ho
  exact kk H locs ls hR hS hl (yok_cons (v := .inr (k', q)) trivial (yok_tl hk)) ho
theorem yT_of (C : zC w p s m args c nL cc own) {i i2 q qa : Nat} {u : List Int32} {g : Nat → Int32} {A : Nat → Prop} {H : Heap} (h : yL w ws H) (h1 : ws[i]? = some (q, .inr (9, [zval (.inr (14, qa)), zval (.inl 0), zval (.inl 0), zval (.inl 0)]))) (h2 : ws[i2]? = some (qa, .inl (zwA w 14, u.length, .inl g))) (hg : ∀ i, i < u.length → g i = u.getD i 0) (hq : ¬ A q) (hqa : ¬ A qa) : yT q qa u A s H := by
  obtain ⟨hx, hb, hml, hown, hts, hK⟩ := C
  obtain ⟨r, e1, cell, g1, g2, g3, g4⟩ := h.1 i _ h1
  have hr : r = (RJ0, TJ0, 4) := Option.some.inj (e1.symm.trans rfl)
  subst hr
  obtain ⟨hS, hfc, kC, hkC, hkind⟩ := hK.1.1 9 _ rfl
  have hf : ∀ k, k < 4 → ∀ v, vp_V [zval (.inr (14, qa)), zval (.inl 0), zval (.inl 0), zval (.inl 0)] k = v → va_OF (TJ0 k).1 (TJ0 k).2.1 (TJ0 k).2.2.1 v q A s H := fun k hk v hv => by
    obtain ⟨cf, kf, fi, f, hi, hsl⟩ := hS k hk
    refine ⟨cf, kf, fi, f, cell, hi, (u_facts hfc hkC (u_lays hts inTJ0 hk) hi).1, g1, (by rw [g3]; exact fun h => by cases h), ?_, hq⟩
    rw [hsl, ← hv]
    exact g4 k hk
  have ha := h.1 i2 _ h2
  refine ⟨fun j hj => ?_, fun i j hi hj _ => by omega⟩
  obtain rfl : j = 0 := by omega
  refine ⟨⟨cell, g1, by rw [g3]; rfl, by rw [g2]; exact hfc, hq⟩, hf 1 (by decide) (.int 0) (by show Value.int (zi 0) = _; rw [zi_0]), hf 0 (by decide) _ rfl, ⟨_, ha, (hK.1.2 5 _ ty14).1 u.length (fun j => .int (g j)), (fun z => by cases z), ?_, ?_, fun j hj9 => ?_, hqa⟩⟩
  · exact Nat.le_of_eq (arrV_size _ _ _).symm
  · show (arrV (zwA w 14) u.length _).slots.size.toInt32 = _
    rw [arrV_size]
    rfl
  · have hj8 : j < u.length := hj9
    show (arrV (zwA w 14) u.length _).slots[j]? = _
    rw [arrV_read _ _ hj8, hg j hj8]
    rfl
/-- a builder's cells behind a call, beside those that the callee cannot reach -/
theorem yBS_step {b da da' m0 m1 n0 n1 N : Nat} {f f1 : Nat → Int32} {strs : va_W} {H0 H1 : Heap} (hD : zwD wc = zwD w) (h0 : yL w (yW w b da m0 n0 f ++ strs) H0) (hN : H0.size = N) (hU : ∀ q, zA wc q → q = b ∨ q = da ∨ N ≤ q) (hA : ∀ q, zA wc q → zA w q)
    (h1 : yL wc (yW w b da' m1 n1 f1) H1) (hk : ∀ q, q < H0.size → ¬ zA wc q → H1[q]? = H0[q]?) : yL w (yW w b da' m1 n1 f1 ++ strs) H1 := by
  have hst : ∀ (k : Nat) (q : Nat × va_E), strs[k]? = some q → (yW w b da m0 n0 f ++ strs)[k + 2]? = some q := fun k q hq => by
    rw [List.getElem?_append_right (show (yW w b da m0 n0 f).length ≤ k + 2 from Nat.le_add_left 2 k)]
    exact hq
  have hne : ∀ (k : Nat) (q : Nat × va_E), strs[k]? = some q → q.1 ≠ b ∧ q.1 ≠ da ∧ q.1 < N := fun k q hq => by
    refine ⟨fun z => ?_, fun z => ?_, ?_⟩
    · have := h0.2.1 (k + 2) 0 q _ (hst k q hq) rfl z
      omega
    · have := h0.2.1 (k + 2) 1 q _ (hst k q hq) rfl z
      omega
    · rw [← hN]
      exact (h0.1 (k + 2) q (hst k q hq)).lt
  have hnA : ∀ (k : Nat) (q : Nat × va_E), strs[k]? = some q → ¬ zA wc q.1 := fun k q hq z => by
    have := hne k q hq
    rcases hU _ z with h | h | h <;> omega
  have hP1 : va_P (zwD w) vwCl (yW w b da' m1 n1 f1) H1 := by rw [← hD]; exact h1.1
  refine ⟨hP1.app fun k q hq => (h0.1 (k + 2) q (hst k q hq)).kept ?_, va_D.app (h1.2.weaken fun _ _ _ hz => hA _ hz) ⟨fun i j x y hi hj he => ?_, fun k q hq => h0.2.2 (k + 2) q (hst k q hq)⟩ fun i j x y hi hj he => ?_⟩
  · exact hk q.1 (by rw [hN]; exact (hne k q hq).2.2) (hnA k q hq)
  · have := h0.2.1 (i + 2) (j + 2) x y (hst i x hi) (hst j y hj) he
    omega
  · exact hnA j y hj (by rw [← he]; exact h1.2.2 i x hi)
/-- .. and the region in which a builder's method may write -/
def yU3 (b da N : Nat) : Nat → Prop := fun q => q = b ∨ q = da ∨ N ≤ q
theorem yBS_A {b da m0 n0 : Nat} {f : Nat → Int32} {strs : va_W} {H : Heap} (h : yL w (yW w b da m0 n0 f ++ strs) H) : zA w b ∧ zA w da := ⟨h.2.2 0 _ rfl, h.2.2 1 _ rfl⟩
/-- append(String), of a text u at q -/
theorem y_apS (C : zC w p s m args c nL cc own) (hX : yX w s s.heap) (hN0 : ∀ q, s.heap.size ≤ q → zA w q) {idx b q qa kq : Nat} {T u : List Int32} {strs : va_W} {rest : List zv} (hd : decode cc pc = .ok (.invokevirtual idx, 3)) (hm : yMV own idx yJ4_append_15ec4 cJ4_append_15ec4 2 (some (.object "java/lang/StringBuilder")) 1)
    (hu : yOk u) (hl9 : T.length + u.length ≤ 1500)
    (hT : ∀ (H : Heap) (locs : List Loc) (da m0 : Nat) (f : Nat → Int32), yL w (yW w b da m0 T.length f ++ strs) H → va_S (zA w) s.heap H locs → yT q qa u (yU3 b da H.size) s H)
    (hR : 6 ≤ R.frames ∧ 8 + (2 + 11) + 190 ≤ R.locals) (hcs : cells + 1 ≤ R.cells ∧ slots + 3000 ≤ R.slots) (hk8 : rest.length ≤ 8)
    (kk : yS w p l e R s m args below meth c nL (cells + 1) (slots + 3000) Q (pc + 3) loc (.inr (8, b) :: rest) (yBS w b (T ++ u) strs)) : yS w p l e R s m args below meth c nL cells slots Q pc loc (.inr (kq, q) :: .inr (8, b) :: rest) (yBS w b T strs) := by
  refine y_kind (k' := 30) ?_
  refine y_ex fun da => y_ex fun m0 => y_ex fun f => ?_
  refine y_fact (P := yHold T m0 f) (fun H h => h.1) fun hh => ?_
  refine y_to (G' := yL w (yW w b da m0 T.length f ++ strs)) (fun H h => h.2) ?_
  refine y_fact (P := zA w b ∧ zA w da) (fun H h => yBS_A h) fun hbd => ?_
  refine y_size fun N hN => ?_
  have hAu : ∀ a, yU3 b da N a → zA w a := fun a ha => by
    rcases ha with rfl | rfl | h
    · exact hbd.1
    · exact hbd.2
    · exact hN0 a (Nat.le_trans hN h)
  have hA : ∀ a, zA (zPt w (yU3 b da N) q qa u) a → zA w a := fun a ha => hAu a (zPt_A.mp ha)
  have hc := c_J4_appendS (zPt w (yU3 b da N) q qa u) l b da m0 T f hh hl9
  refine y_callV (wc := zPt w (yU3 b da N) q qa u) (k := 1) (kd := 8) (As := [.inr (30, q)]) (rest := rest) (Gc := yL (zPt w (yU3 b da N) q qa u) (yW w b da m0 T.length f)) C hd hm hA hc (fun H locs hG hS => ⟨y_recv (ci := 8) (q0 := 0) C rfl hG.1 rfl, fun U hU hW => ⟨?_, ?_, ?_⟩⟩) rfl hR hcs ⟨rfl, hk8⟩ (fun r G1 hp => ?_)
  · have hT9 := hT H locs da m0 f hG.1 hS
    rw [hG.2] at hT9
    refine zPt_Kn hAu hu ?_ (yKn.warm hW hS hU ⟨C.2.2.2.2.2, hX⟩)
    rw [hU]
    exact vk_S.moved hW.alike hT9
  · intro a ha
    exact zPt_A.mpr (Or.inr (Or.inr (by rw [← hG.2, ← hU]; exact ha)))
  · rw [hU]
    refine ⟨hG.1.1.by (fun k => k) fun k x hx => ?_, ⟨fun i j x y hi hj he => ?_, fun k x hx => ?_⟩⟩
    · have hk2 : k < 2 := (List.getElem?_eq_some_iff.mp hx).1
      rw [List.getElem?_append_left (show k < (yW w b da m0 T.length f).length from hk2)]
      exact hx
    · have hi2 : i < 2 := (List.getElem?_eq_some_iff.mp hi).1
      have hj2 : j < 2 := (List.getElem?_eq_some_iff.mp hj).1
      refine hG.1.2.1 i j x y ?_ ?_ he
      · rw [List.getElem?_append_left (show i < (yW w b da m0 T.length f).length from hi2)]
        exact hi
      · rw [List.getElem?_append_left (show j < (yW w b da m0 T.length f).length from hj2)]
        exact hj
    · have hk2 : k < 2 := (List.getElem?_eq_some_iff.mp hx).1
      match k, hk2 with
      | 0, _ => cases hx; exact zPt_A.mpr (Or.inl rfl)
      | 1, _ => cases hx; exact zPt_A.mpr (Or.inr (Or.inl rfl))
  · obtain ⟨rfl, da1, m1, f1, rfl, hh1⟩ := hp
    refine y_to (G' := yBS w b (T ++ u) strs) (fun H1 h => ?_) kk
    obtain ⟨h1, H0, hG0, hsz, hk⟩ := h
    exact ⟨da1, m1, f1, hh1, yBS_step (wc := zPt w (yU3 b da N) q qa u) rfl hG0.1 hG0.2 (fun q hq => zPt_A.mp hq) hA h1 hk⟩
end YT
