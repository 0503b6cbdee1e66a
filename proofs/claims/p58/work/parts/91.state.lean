/-! A state of a method about which G tells what the heap holds; one row an instruction that changes no cell (by wip/p58/mk91.py out of part 10). -/
def yok : zv → Prop
  | .inl x => zR x
  | .inr _ => True
def yS (w : zW) (p : Program) (l : Launch) (e : Env) (R : Room) (s : State) (m : MethodId) (args : Array Value) (below : List Frame) (meth : Method) (c : Code) (nL cells slots : Nat) (Q : State → Prop) (pc : Nat) (loc : List (Option zv)) (stk : List zv) (G : Heap → Prop) : Prop :=
  ∀ (H : Heap) (locs : List Loc) (ls : Array Slot), G H → va_S (zA w) s.heap H locs → lv_has ls nL (zlo 0 loc) → (∀ v ∈ stk, yok v) → (∀ v, some v ∈ loc → yok v) → W p l e R s m args below meth c H locs cells slots Q (F0 m pc ls (stk.map zval))
section YS
variable {w : zW} {p : Program} {l : Launch} {e : Env} {R : Room} {s : State} {m : MethodId} {args : Array Value} {below : List Frame} {meth : Method} {c : Code} {nL cells slots : Nat} {Q : State → Prop}
variable {cc : ByteArray} {own : String} {pc : Nat} {loc : List (Option zv)} {stk : List zv} {G : Heap → Prop}
theorem yok_cons {v : zv} (h1 : yok v) (h2 : ∀ v ∈ stk, yok v) : ∀ u ∈ v :: stk, yok u := fun u hu => (List.mem_cons.mp hu).elim (fun e => by rw [e]; exact h1) (h2 u)
theorem yok_tl {v : zv} (h2 : ∀ u ∈ v :: stk, yok u) : ∀ u ∈ stk, yok u := fun u hu => h2 u (List.mem_cons_of_mem _ hu)
theorem yok_hd {v : zv} (h2 : ∀ u ∈ v :: stk, yok u) : yok v := h2 v List.mem_cons_self
theorem yok_loc {i : Nat} {v : zv} (ho : ∀ v, some v ∈ loc → yok v) (hi : loc[i]? = some (some v)) : yok v := ho v (List.mem_of_getElem? hi)
theorem yok_set {i : Nat} {v : zv} (ho : ∀ v, some v ∈ loc → yok v) (hv : yok v) : ∀ u, some u ∈ loc.set i (some v) → yok u := fun u hu => by
  rcases List.mem_or_eq_of_mem_set hu with h | h
  · exact ho u h
  · cases h
    exact hv
theorem y_loc {loc' : List (Option zv)} (hs : ∀ (k : Nat) (v : zv), loc'[k]? = some (some v) → loc[k]? = some (some v)) (kk : yS w p l e R s m args below meth c nL cells slots Q pc loc' stk G) : yS w p l e R s m args below meth c nL cells slots Q pc loc stk G := by
  intro H locs ls hR hS hl hk ho
  refine kk H locs ls hR hS (zlo_sub hl fun q hq => ?_) hk fun v hv => ?_
  · obtain ⟨k, v, h1, h2⟩ := zlo_mem.mp hq
    exact zlo_mem.mpr ⟨k, v, hs k v h1, h2⟩
  · obtain ⟨k, hk2⟩ := List.getElem?_of_mem hv
    exact ho v (List.mem_of_getElem? (hs k v hk2))
theorem y_iconst (C : zC w p s m args c nL cc own) {n : Int} (hd : decode cc pc = .ok (.iconst n, 1)) (hn : (decide (-2147483648 ≤ n) && decide (n < 2147483648)) = true)
    (kk : yS w p l e R s m args below meth c nL cells slots Q (pc + 1) loc (.inl n :: stk) G) : yS w p l e R s m args below meth c nL cells slots Q pc loc (stk) G := by
  intro H locs ls hR hS hl hk ho
  obtain ⟨hx, hb, hml, hown, hts, hK⟩ := C
  simp only [Bool.and_eq_true, decide_eq_true_eq] at hn
  exact lv_iconst (v := zi n) hx hb hd rfl (kk H locs ls hR hS hl (yok_cons hn hk) ho)
theorem y_bipush (C : zC w p s m args c nL cc own) {n : Int} (hd : decode cc pc = .ok (.bipush n, 2)) (hv : (Int8.ofInt n).toInt32 = zi n) (hn : (decide (-2147483648 ≤ n) && decide (n < 2147483648)) = true)
    (kk : yS w p l e R s m args below meth c nL cells slots Q (pc + 2) loc (.inl n :: stk) G) : yS w p l e R s m args below meth c nL cells slots Q pc loc (stk) G := by
  intro H locs ls hR hS hl hk ho
  obtain ⟨hx, hb, hml, hown, hts, hK⟩ := C
  simp only [Bool.and_eq_true, decide_eq_true_eq] at hn
  exact lv_bipush (v := zi n) hx hb hd hv (kk H locs ls hR hS hl (yok_cons hn hk) ho)
theorem y_sipush (C : zC w p s m args c nL cc own) {n : Int} (hd : decode cc pc = .ok (.sipush n, 3)) (hv : (Int16.ofInt n).toInt32 = zi n) (hn : (decide (-2147483648 ≤ n) && decide (n < 2147483648)) = true)
    (kk : yS w p l e R s m args below meth c nL cells slots Q (pc + 3) loc (.inl n :: stk) G) : yS w p l e R s m args below meth c nL cells slots Q pc loc (stk) G := by
  intro H locs ls hR hS hl hk ho
  obtain ⟨hx, hb, hml, hown, hts, hK⟩ := C
  simp only [Bool.and_eq_true, decide_eq_true_eq] at hn
  exact lv_sipush (v := zi n) hx hb hd hv (kk H locs ls hR hS hl (yok_cons hn hk) ho)
theorem y_ldc (C : zC w p s m args c nL cc own) {n : Int} {idx : Nat} (hd : decode cc pc = .ok (.ldc idx, 2)) (hm : Cond.constant own idx (zi n) ∈ zw_T) (hn : (decide (-2147483648 ≤ n) && decide (n < 2147483648)) = true)
    (kk : yS w p l e R s m args below meth c nL cells slots Q (pc + 2) loc (.inl n :: stk) G) : yS w p l e R s m args below meth c nL cells slots Q pc loc (stk) G := by
  intro H locs ls hR hS hl hk ho
  obtain ⟨hx, hb, hml, hown, hts, hK⟩ := C
  simp only [Bool.and_eq_true, decide_eq_true_eq] at hn
  exact lv_ldc (v := zi n) hx hb hown (hts _ hm) hd (kk H locs ls hR hS hl (yok_cons hn hk) ho)
theorem y_iload_n (C : zC w p s m args c nL cc own) {k : Fin 4} {x : Int} (hd : decode cc pc = .ok (.iload_n k, 1)) (hi : loc[(k : Nat)]? = some (some (.inl x)))
    (kk : yS w p l e R s m args below meth c nL cells slots Q (pc + 1) loc (.inl x :: stk) G) : yS w p l e R s m args below meth c nL cells slots Q pc loc (stk) G := by
  intro H locs ls hR hS hl hk ho
  obtain ⟨hx, hb, hml, hown, hts, hK⟩ := C
  exact lv_iload_n (x := zi x) hx hb hd rfl (zlo_get hl hi) (kk H locs ls hR hS hl (yok_cons (yok_loc ho hi) hk) ho)
theorem y_iload (C : zC w p s m args c nL cc own) {i : Nat} {x : Int} (hd : decode cc pc = .ok (.iload i, 2)) (hi : loc[i]? = some (some (.inl x)))
    (kk : yS w p l e R s m args below meth c nL cells slots Q (pc + 2) loc (.inl x :: stk) G) : yS w p l e R s m args below meth c nL cells slots Q pc loc (stk) G := by
  intro H locs ls hR hS hl hk ho
  obtain ⟨hx, hb, hml, hown, hts, hK⟩ := C
  exact lv_iload (x := zi x) hx hb hd (zlo_get hl hi) (kk H locs ls hR hS hl (yok_cons (yok_loc ho hi) hk) ho)
theorem y_aload_n (C : zC w p s m args c nL cc own) {k : Fin 4} {q : Nat × Nat} (hd : decode cc pc = .ok (.aload_n k, 1)) (hi : loc[(k : Nat)]? = some (some (.inr q)))
    (kk : yS w p l e R s m args below meth c nL cells slots Q (pc + 1) loc (.inr q :: stk) G) : yS w p l e R s m args below meth c nL cells slots Q pc loc (stk) G := by
  intro H locs ls hR hS hl hk ho
  obtain ⟨hx, hb, hml, hown, hts, hK⟩ := C
  exact lv_aload_n (x := q.2) hx hb hd rfl (zlo_get hl hi) (kk H locs ls hR hS hl (yok_cons (yok_loc ho hi) hk) ho)
theorem y_aload (C : zC w p s m args c nL cc own) {i : Nat} {q : Nat × Nat} (hd : decode cc pc = .ok (.aload i, 2)) (hi : loc[i]? = some (some (.inr q)))
    (kk : yS w p l e R s m args below meth c nL cells slots Q (pc + 2) loc (.inr q :: stk) G) : yS w p l e R s m args below meth c nL cells slots Q pc loc (stk) G := by
  intro H locs ls hR hS hl hk ho
  obtain ⟨hx, hb, hml, hown, hts, hK⟩ := C
  exact lv_aload (x := q.2) hx hb hd (zlo_get hl hi) (kk H locs ls hR hS hl (yok_cons (yok_loc ho hi) hk) ho)
theorem y_istore_n (C : zC w p s m args c nL cc own) {k : Fin 4} {x : Int} (hd : decode cc pc = .ok (.istore_n k, 1)) (hn : (k : Nat) < nL)
    (kk : yS w p l e R s m args below meth c nL cells slots Q (pc + 1) (loc.set (k : Nat) (some (.inl x))) (stk) G) : yS w p l e R s m args below meth c nL cells slots Q pc loc (.inl x :: stk) G := by
  intro H locs ls hR hS hl hk ho
  obtain ⟨hx, hb, hml, hown, hts, hK⟩ := C
  exact lv_istore_n (x := zi x) hx hb hd rfl hl hn rfl fun ls' hl' => kk H locs ls' hR hS (zlo_set (v := .inl x) hl') (yok_tl hk) (yok_set ho (yok_hd hk))
theorem y_istore (C : zC w p s m args c nL cc own) {i : Nat} {x : Int} (hd : decode cc pc = .ok (.istore i, 2)) (hn : i < nL)
    (kk : yS w p l e R s m args below meth c nL cells slots Q (pc + 2) (loc.set i (some (.inl x))) (stk) G) : yS w p l e R s m args below meth c nL cells slots Q pc loc (.inl x :: stk) G := by
  intro H locs ls hR hS hl hk ho
  obtain ⟨hx, hb, hml, hown, hts, hK⟩ := C
  exact lv_istore (x := zi x) hx hb hd hl hn rfl fun ls' hl' => kk H locs ls' hR hS (zlo_set (v := .inl x) hl') (yok_tl hk) (yok_set ho (yok_hd hk))
theorem y_astore_n (C : zC w p s m args c nL cc own) {k : Fin 4} {x : Nat × Nat} (hd : decode cc pc = .ok (.astore_n k, 1)) (hn : (k : Nat) < nL)
    (kk : yS w p l e R s m args below meth c nL cells slots Q (pc + 1) (loc.set (k : Nat) (some (.inr x))) (stk) G) : yS w p l e R s m args below meth c nL cells slots Q pc loc (.inr x :: stk) G := by
  intro H locs ls hR hS hl hk ho
  obtain ⟨hx, hb, hml, hown, hts, hK⟩ := C
  exact lv_astore_n (x := x.2) hx hb hd rfl hl hn rfl fun ls' hl' => kk H locs ls' hR hS (zlo_set (v := .inr x) hl') (yok_tl hk) (yok_set ho (yok_hd hk))
theorem y_astore (C : zC w p s m args c nL cc own) {i : Nat} {x : Nat × Nat} (hd : decode cc pc = .ok (.astore i, 2)) (hn : i < nL)
    (kk : yS w p l e R s m args below meth c nL cells slots Q (pc + 2) (loc.set i (some (.inr x))) (stk) G) : yS w p l e R s m args below meth c nL cells slots Q pc loc (.inr x :: stk) G := by
  intro H locs ls hR hS hl hk ho
  obtain ⟨hx, hb, hml, hown, hts, hK⟩ := C
  exact lv_astore (x := x.2) hx hb hd hl hn rfl fun ls' hl' => kk H locs ls' hR hS (zlo_set (v := .inr x) hl') (yok_tl hk) (yok_set ho (yok_hd hk))
theorem y_iinc (C : zC w p s m args c nL cc own) {i : Nat} {n x : Int} (hd : decode cc pc = .ok (.iinc i n, 3)) (hi : loc[i]? = some (some (.inl x))) (hn : i < nL)
    (kk : yS w p l e R s m args below meth c nL cells slots Q (pc + 3) (loc.set i (some (.inl (zw (x + n))))) (stk) G) : yS w p l e R s m args below meth c nL cells slots Q pc loc (stk) G := by
  intro H locs ls hR hS hl hk ho
  obtain ⟨hx, hb, hml, hown, hts, hK⟩ := C
  obtain ⟨k, hk2⟩ := List.getElem?_of_mem (zlo_mem.mpr ⟨i, .inl x, hi, rfl⟩ : ((0 + i, zval (.inl x)) : Nat × Value) ∈ zlo 0 loc)
  rw [Nat.zero_add] at hk2
  exact lv_iinc (v := zi (zw (x + n))) hx hb hd hl hk2 (zi_add x n) hn rfl fun ls' hl' => kk H locs ls' hR hS (zlo_set (v := .inl (zw (x + n))) hl') hk (yok_set ho (zw_R _))
theorem y_iadd (C : zC w p s m args c nL cc own) {x y : Int} (hd : decode cc pc = .ok (.iadd, 1))
    (kk : yS w p l e R s m args below meth c nL cells slots Q (pc + 1) loc (.inl (zw (x + y)) :: stk) G) : yS w p l e R s m args below meth c nL cells slots Q pc loc (.inl y :: .inl x :: stk) G := by
  intro H locs ls hR hS hl hk ho
  obtain ⟨hx, hb, hml, hown, hts, hK⟩ := C
  have hy' : zR y := yok_hd hk
  have hx' : zR x := yok_hd (yok_tl hk)
  refine lv_iadd hx hb hd ?_
  rw [show zi x + zi y = zi (zw (x + y)) from zi_add x y]
  exact kk H locs ls hR hS hl (yok_cons (zw_R _) (yok_tl (yok_tl hk))) ho
theorem y_isub (C : zC w p s m args c nL cc own) {x y : Int} (hd : decode cc pc = .ok (.isub, 1))
    (kk : yS w p l e R s m args below meth c nL cells slots Q (pc + 1) loc (.inl (zw (x - y)) :: stk) G) : yS w p l e R s m args below meth c nL cells slots Q pc loc (.inl y :: .inl x :: stk) G := by
  intro H locs ls hR hS hl hk ho
  obtain ⟨hx, hb, hml, hown, hts, hK⟩ := C
  have hy' : zR y := yok_hd hk
  have hx' : zR x := yok_hd (yok_tl hk)
  refine lv_isub hx hb hd ?_
  rw [show zi x - zi y = zi (zw (x - y)) from zi_sub x y]
  exact kk H locs ls hR hS hl (yok_cons (zw_R _) (yok_tl (yok_tl hk))) ho
theorem y_imul (C : zC w p s m args c nL cc own) {x y : Int} (hd : decode cc pc = .ok (.imul, 1))
    (kk : yS w p l e R s m args below meth c nL cells slots Q (pc + 1) loc (.inl (zw (x * y)) :: stk) G) : yS w p l e R s m args below meth c nL cells slots Q pc loc (.inl y :: .inl x :: stk) G := by
  intro H locs ls hR hS hl hk ho
  obtain ⟨hx, hb, hml, hown, hts, hK⟩ := C
  have hy' : zR y := yok_hd hk
  have hx' : zR x := yok_hd (yok_tl hk)
  refine lv_imul hx hb hd ?_
  rw [show zi x * zi y = zi (zw (x * y)) from zi_mul hx' hy']
  exact kk H locs ls hR hS hl (yok_cons (zw_R _) (yok_tl (yok_tl hk))) ho
theorem y_idiv (C : zC w p s m args c nL cc own) {x y : Int} (hd : decode cc pc = .ok (.idiv, 1)) (hne : ¬ y = 0)
    (kk : yS w p l e R s m args below meth c nL cells slots Q (pc + 1) loc (.inl (zw (x.tdiv y)) :: stk) G) : yS w p l e R s m args below meth c nL cells slots Q pc loc (.inl y :: .inl x :: stk) G := by
  intro H locs ls hR hS hl hk ho
  obtain ⟨hx, hb, hml, hown, hts, hK⟩ := C
  have hy' : zR y := yok_hd hk
  have hx' : zR x := yok_hd (yok_tl hk)
  refine lv_idiv hx hb hd (fun q => hne ((zi_eq hy' zR_0).mp (by rw [zi_0]; exact q))) ?_
  rw [show zi x / zi y = zi (zw (x.tdiv y)) from zi_div hx' hy']
  exact kk H locs ls hR hS hl (yok_cons (zw_R _) (yok_tl (yok_tl hk))) ho
theorem y_irem (C : zC w p s m args c nL cc own) {x y : Int} (hd : decode cc pc = .ok (.irem, 1)) (hne : ¬ y = 0)
    (kk : yS w p l e R s m args below meth c nL cells slots Q (pc + 1) loc (.inl (x.tmod y) :: stk) G) : yS w p l e R s m args below meth c nL cells slots Q pc loc (.inl y :: .inl x :: stk) G := by
  intro H locs ls hR hS hl hk ho
  obtain ⟨hx, hb, hml, hown, hts, hK⟩ := C
  have hy' : zR y := yok_hd hk
  have hx' : zR x := yok_hd (yok_tl hk)
  refine lv_irem hx hb hd (fun q => hne ((zi_eq hy' zR_0).mp (by rw [zi_0]; exact q))) ?_
  rw [show zi x - zi x / zi y * zi y = zi (x.tmod y) from zi_remsub hx' hy']
  exact kk H locs ls hR hS hl (yok_cons (zR_rem hx' hy') (yok_tl (yok_tl hk))) ho
theorem y_iand (C : zC w p s m args c nL cc own) {x y : Int} (hd : decode cc pc = .ok (.iand, 1))
    (kk : yS w p l e R s m args below meth c nL cells slots Q (pc + 1) loc (.inl (zand x y) :: stk) G) : yS w p l e R s m args below meth c nL cells slots Q pc loc (.inl y :: .inl x :: stk) G := by
  intro H locs ls hR hS hl hk ho
  obtain ⟨hx, hb, hml, hown, hts, hK⟩ := C
  have hy' : zR y := yok_hd hk
  have hx' : zR x := yok_hd (yok_tl hk)
  refine lv_iand hx hb hd ?_
  rw [show zi x &&& zi y = zi (zand x y) from (zi_of _).symm]
  exact kk H locs ls hR hS hl (yok_cons (zR_of _) (yok_tl (yok_tl hk))) ho
theorem y_ior (C : zC w p s m args c nL cc own) {x y : Int} (hd : decode cc pc = .ok (.ior, 1))
    (kk : yS w p l e R s m args below meth c nL cells slots Q (pc + 1) loc (.inl (zor x y) :: stk) G) : yS w p l e R s m args below meth c nL cells slots Q pc loc (.inl y :: .inl x :: stk) G := by
  intro H locs ls hR hS hl hk ho
  obtain ⟨hx, hb, hml, hown, hts, hK⟩ := C
  have hy' : zR y := yok_hd hk
  have hx' : zR x := yok_hd (yok_tl hk)
  refine lv_ior hx hb hd ?_
  rw [show zi x ||| zi y = zi (zor x y) from (zi_of _).symm]
  exact kk H locs ls hR hS hl (yok_cons (zR_of _) (yok_tl (yok_tl hk))) ho
theorem y_ishl (C : zC w p s m args c nL cc own) {x y : Int} (hd : decode cc pc = .ok (.ishl, 1))
    (kk : yS w p l e R s m args below meth c nL cells slots Q (pc + 1) loc (.inl (zshl x y) :: stk) G) : yS w p l e R s m args below meth c nL cells slots Q pc loc (.inl y :: .inl x :: stk) G := by
  intro H locs ls hR hS hl hk ho
  obtain ⟨hx, hb, hml, hown, hts, hK⟩ := C
  have hy' : zR y := yok_hd hk
  have hx' : zR x := yok_hd (yok_tl hk)
  refine lv_ishl hx hb hd ?_
  rw [show zi x <<< (zi y &&& 31) = zi (zshl x y) from (zi_of _).symm]
  exact kk H locs ls hR hS hl (yok_cons (zR_of _) (yok_tl (yok_tl hk))) ho
theorem y_ishr (C : zC w p s m args c nL cc own) {x y : Int} (hd : decode cc pc = .ok (.ishr, 1))
    (kk : yS w p l e R s m args below meth c nL cells slots Q (pc + 1) loc (.inl (zshr x y) :: stk) G) : yS w p l e R s m args below meth c nL cells slots Q pc loc (.inl y :: .inl x :: stk) G := by
  intro H locs ls hR hS hl hk ho
  obtain ⟨hx, hb, hml, hown, hts, hK⟩ := C
  have hy' : zR y := yok_hd hk
  have hx' : zR x := yok_hd (yok_tl hk)
  refine lv_ishr hx hb hd ?_
  rw [show zi x >>> (zi y &&& 31) = zi (zshr x y) from (zi_of _).symm]
  exact kk H locs ls hR hS hl (yok_cons (zR_of _) (yok_tl (yok_tl hk))) ho
theorem y_ineg (C : zC w p s m args c nL cc own) {x : Int} (hd : decode cc pc = .ok (.ineg, 1))
    (kk : yS w p l e R s m args below meth c nL cells slots Q (pc + 1) loc (.inl (zw (-x)) :: stk) G) : yS w p l e R s m args below meth c nL cells slots Q pc loc (.inl x :: stk) G := by
  intro H locs ls hR hS hl hk ho
  obtain ⟨hx, hb, hml, hown, hts, hK⟩ := C
  refine lv_ineg hx hb hd ?_
  rw [show -zi x = zi (zw (-x)) from zi_neg x]
  exact kk H locs ls hR hS hl (yok_cons (zw_R _) (yok_tl hk)) ho
theorem y_i2b (C : zC w p s m args c nL cc own) {x : Int} (hd : decode cc pc = .ok (.i2b, 1))
    (kk : yS w p l e R s m args below meth c nL cells slots Q (pc + 1) loc (.inl (zi2b x) :: stk) G) : yS w p l e R s m args below meth c nL cells slots Q pc loc (.inl x :: stk) G := by
  intro H locs ls hR hS hl hk ho
  obtain ⟨hx, hb, hml, hown, hts, hK⟩ := C
  refine lv_i2b (v := zi (zi2b x)) hx hb hd (zi_of _).symm ?_
  exact kk H locs ls hR hS hl (yok_cons (zR_of _) (yok_tl hk)) ho
theorem y_i2c (C : zC w p s m args c nL cc own) {x : Int} (hd : decode cc pc = .ok (.i2c, 1)) (h0 : 0 ≤ x) (h1 : x < 256)
    (kk : yS w p l e R s m args below meth c nL cells slots Q (pc + 1) loc (.inl x :: stk) G) : yS w p l e R s m args below meth c nL cells slots Q pc loc (.inl x :: stk) G := by
  intro H locs ls hR hS hl hk ho
  obtain ⟨hx, hb, hml, hown, hts, hK⟩ := C
  refine lv_i2c (v := zi x) hx hb hd ?_ (kk H locs ls hR hS hl hk ho)
  obtain ⟨k, rfl⟩ : ∃ k : Nat, x = (k : Int) := ⟨x.toNat, by omega⟩
  have hk2 : k < 256 := by omega
  revert hk2
  generalize k = q
  intro hq
  have : ∀ q : Fin 256, ((zi ((q : Nat) : Int)).toUInt32 % 65536).toInt32 = zi ((q : Nat) : Int) := by decide +kernel
  exact this ⟨q, hq⟩
theorem y_gstC (C : zC w p s m args c nL cc own) {idx : Nat} (hd : decode cc pc = .ok (.getstatic idx, 3)) (hm : Cond.fieldLink own idx "java/lang/String" "COMPACT_STRINGS" "Z" ∈ zw_T)
    (kk : yS w p l e R s m args below meth c nL cells slots Q (pc + 3) loc (.inl 1 :: stk) G) : yS w p l e R s m args below meth c nL cells slots Q pc loc stk G := by
  intro H locs ls hR hS hl hk ho
  obtain ⟨hx, hb, hml, hown, hts, hK⟩ := C
  have e1 : (Value.int 1) = zval (.inl 1) := by show Value.int 1 = Value.int (zi 1); rw [show zi 1 = 1 by decide]
  have hz := hK.2.2.1.2.1
  rw [e1] at hz
  exact va_gets hx hb hz hS hown (hts _ hm) (fun _ h9 => h9) hd (kk H locs ls hR hS hl (yok_cons (v := .inl 1) ⟨by decide, by decide⟩ hk) ho)
theorem y_mmin (C : zC w p s m args c nL cc own) {idx : Nat} {x y : Int} (hd : decode cc pc = .ok (.invokestatic idx, 3)) (hm : Cond.methodLink own idx Lib.Math.min.name ∈ zw_T) (hR : 1 ≤ R.frames ∧ stk.length + 13 ≤ R.locals) (hcs : cells ≤ R.cells ∧ slots ≤ R.slots)
    (kk : yS w p l e R s m args below meth c nL cells slots Q (pc + 3) loc (.inl (zmin x y) :: stk) G) : yS w p l e R s m args below meth c nL cells slots Q pc loc (.inl y :: .inl x :: stk) G := by
  intro H locs ls hR1 hS hl hk ho
  obtain ⟨hx, hb, hml, hown, hts, hK⟩ := C
  have hy' : zR y := yok_hd hk
  have hx' : zR x := yok_hd (yok_tl hk)
  have he : (if zi y < zi x then zi y else zi x) = zi (zmin x y) := by
    unfold zmin
    by_cases hq : y < x
    · rw [if_pos hq, if_pos ((zi_lt hy' hx').mpr hq)]
    · rw [if_neg hq, if_neg (fun z => hq ((zi_lt hy' hx').mp z))]
  have hz : zR (zmin x y) := by
    unfold zmin
    split
    · exact hy'
    · exact hx'
  refine va_mmin hx hb (by rw [hml]; exact hl.1.symm) hown (hts _ hm) (hts _ zmj_min.1) (hts _ zmj_ini) (hts _ zmj_min.2) hR.1 (by rw [zsum_len]; exact hR.2) hcs.1 hcs.2 hd ?_
  rw [he]
  exact kk H locs ls hR1 hS hl (yok_cons hz (yok_tl (yok_tl hk))) ho
theorem y_mmax (C : zC w p s m args c nL cc own) {idx : Nat} {x y : Int} (hd : decode cc pc = .ok (.invokestatic idx, 3)) (hm : Cond.methodLink own idx Lib.Math.max.name ∈ zw_T) (hR : 1 ≤ R.frames ∧ stk.length + 13 ≤ R.locals) (hcs : cells ≤ R.cells ∧ slots ≤ R.slots)
    (kk : yS w p l e R s m args below meth c nL cells slots Q (pc + 3) loc (.inl (zmax x y) :: stk) G) : yS w p l e R s m args below meth c nL cells slots Q pc loc (.inl y :: .inl x :: stk) G := by
  intro H locs ls hR1 hS hl hk ho
  obtain ⟨hx, hb, hml, hown, hts, hK⟩ := C
  have hy' : zR y := yok_hd hk
  have hx' : zR x := yok_hd (yok_tl hk)
  have he : (if zi x < zi y then zi y else zi x) = zi (zmax x y) := by
    unfold zmax
    by_cases hq : x < y
    · rw [if_pos hq, if_pos ((zi_lt hx' hy').mpr hq)]
    · rw [if_neg hq, if_neg (fun z => hq ((zi_lt hx' hy').mp z))]
  have hz : zR (zmax x y) := by
    unfold zmax
    split
    · exact hy'
    · exact hx'
  refine va_mmax hx hb (by rw [hml]; exact hl.1.symm) hown (hts _ hm) (hts _ zmj_max.1) (hts _ zmj_ini) (hts _ zmj_max.2) hR.1 (by rw [zsum_len]; exact hR.2) hcs.1 hcs.2 hd ?_
  rw [he]
  exact kk H locs ls hR1 hS hl (yok_cons hz (yok_tl (yok_tl hk))) ho
theorem y_mabs (C : zC w p s m args c nL cc own) {idx : Nat} {x : Int} (hd : decode cc pc = .ok (.invokestatic idx, 3)) (hm : Cond.methodLink own idx Lib.Math.abs.name ∈ zw_T) (hR : 1 ≤ R.frames ∧ stk.length + 13 ≤ R.locals) (hcs : cells ≤ R.cells ∧ slots ≤ R.slots)
    (kk : yS w p l e R s m args below meth c nL cells slots Q (pc + 3) loc (.inl (zabs x) :: stk) G) : yS w p l e R s m args below meth c nL cells slots Q pc loc (.inl x :: stk) G := by
  intro H locs ls hR1 hS hl hk ho
  obtain ⟨hx, hb, hml, hown, hts, hK⟩ := C
  have hx' : zR x := yok_hd hk
  have he : (if 0 ≤ zi x then zi x else 0 - zi x) = zi (zabs x) := by
    unfold zabs
    have h0 : 0 ≤ zi x ↔ 0 ≤ x := by rw [← zi_0]; exact zi_le zR_0 hx'
    by_cases hq : 0 ≤ x
    · rw [if_pos hq, if_pos (h0.mpr hq)]
    · rw [if_neg hq, if_neg (fun z => hq (h0.mp z)), ← zi_0, zi_sub]
  have hz : zR (zabs x) := by
    unfold zabs
    split
    · exact hx'
    · exact zw_R _
  refine va_mabs hx hb (by rw [hml]; exact hl.1.symm) hown (hts _ hm) (hts _ zmj_abs.1) (hts _ zmj_ini) (hts _ zmj_abs.2) hR.1 (by rw [zsum_len]; exact hR.2) hcs.1 hcs.2 hd ?_
  rw [he]
  exact kk H locs ls hR1 hS hl (yok_cons hz (yok_tl hk)) ho
theorem y_dup (C : zC w p s m args c nL cc own) {v : zv} (hd : decode cc pc = .ok (.dup, 1))
    (kk : yS w p l e R s m args below meth c nL cells slots Q (pc + 1) loc (v :: v :: stk) G) : yS w p l e R s m args below meth c nL cells slots Q pc loc (v :: stk) G := by
  intro H locs ls hR hS hl hk ho
  obtain ⟨hx, hb, hml, hown, hts, hK⟩ := C
  exact lv_dup hx hb hd (zval_cat v) (kk H locs ls hR hS hl (yok_cons (yok_hd hk) hk) ho)
theorem y_dup2 (C : zC w p s m args c nL cc own) {v u : zv} (hd : decode cc pc = .ok (.dup2, 1))
    (kk : yS w p l e R s m args below meth c nL cells slots Q (pc + 1) loc (v :: u :: v :: u :: stk) G) : yS w p l e R s m args below meth c nL cells slots Q pc loc (v :: u :: stk) G := by
  intro H locs ls hR hS hl hk ho
  obtain ⟨hx, hb, hml, hown, hts, hK⟩ := C
  exact lv_dup2_11 hx hb hd (zval_cat v) (zval_cat u) (kk H locs ls hR hS hl (yok_cons (yok_hd hk) (yok_cons (yok_hd (yok_tl hk)) hk)) ho)
theorem y_pop (C : zC w p s m args c nL cc own) {v : zv} (hd : decode cc pc = .ok (.pop, 1))
    (kk : yS w p l e R s m args below meth c nL cells slots Q (pc + 1) loc (stk) G) : yS w p l e R s m args below meth c nL cells slots Q pc loc (v :: stk) G := by
  intro H locs ls hR hS hl hk ho
  obtain ⟨hx, hb, hml, hown, hts, hK⟩ := C
  exact lv_pop hx hb hd (zval_cat v) (kk H locs ls hR hS hl (yok_tl hk) ho)
theorem y_goto (C : zC w p s m args c nL cc own) {off : Int} {tgt : Nat} (hd : decode cc pc = .ok (.goto off, 3)) (ht : (pc : Int) + off = (tgt : Int))
    (kk : yS w p l e R s m args below meth c nL cells slots Q tgt loc (stk) G) : yS w p l e R s m args below meth c nL cells slots Q pc loc (stk) G := by
  intro H locs ls hR hS hl hk ho
  obtain ⟨hx, hb, hml, hown, hts, hK⟩ := C
  exact lv_goto hx hb hd ht (kk H locs ls hR hS hl hk ho)
theorem y_icmp_eq (C : zC w p s m args c nL cc own) {x y : Int} {off : Int} {tgt : Nat} (hd : decode cc pc = .ok (.if_icmp .eq off, 3)) (ht : (pc : Int) + off = (tgt : Int))
    (kt : x = y → yS w p l e R s m args below meth c nL cells slots Q tgt loc stk G) (kf : ¬ x = y → yS w p l e R s m args below meth c nL cells slots Q (pc + 3) loc stk G) : yS w p l e R s m args below meth c nL cells slots Q pc loc (.inl y :: .inl x :: stk) G := by
  intro H locs ls hR hS hl hk ho
  obtain ⟨hx, hb, hml, hown, hts, hK⟩ := C
  have hy' : zR y := yok_hd hk
  have hx' : zR x := yok_hd (yok_tl hk)
  exact lv_icmp_eq hx hb hd ht (fun q => kt ((zi_eq hx' hy').mp q) H locs ls hR hS hl (yok_tl (yok_tl hk)) ho) (fun q => kf (fun z => q ((zi_eq hx' hy').mpr z)) H locs ls hR hS hl (yok_tl (yok_tl hk)) ho)
theorem y_icmp_ne (C : zC w p s m args c nL cc own) {x y : Int} {off : Int} {tgt : Nat} (hd : decode cc pc = .ok (.if_icmp .ne off, 3)) (ht : (pc : Int) + off = (tgt : Int))
    (kt : ¬ x = y → yS w p l e R s m args below meth c nL cells slots Q tgt loc stk G) (kf : x = y → yS w p l e R s m args below meth c nL cells slots Q (pc + 3) loc stk G) : yS w p l e R s m args below meth c nL cells slots Q pc loc (.inl y :: .inl x :: stk) G := by
  intro H locs ls hR hS hl hk ho
  obtain ⟨hx, hb, hml, hown, hts, hK⟩ := C
  have hy' : zR y := yok_hd hk
  have hx' : zR x := yok_hd (yok_tl hk)
  exact lv_icmp_ne hx hb hd ht (fun q => kt (fun z => q ((zi_eq hx' hy').mpr z)) H locs ls hR hS hl (yok_tl (yok_tl hk)) ho) (fun q => kf ((zi_eq hx' hy').mp q) H locs ls hR hS hl (yok_tl (yok_tl hk)) ho)
theorem y_icmp_lt (C : zC w p s m args c nL cc own) {x y : Int} {off : Int} {tgt : Nat} (hd : decode cc pc = .ok (.if_icmp .lt off, 3)) (ht : (pc : Int) + off = (tgt : Int))
    (kt : x < y → yS w p l e R s m args below meth c nL cells slots Q tgt loc stk G) (kf : ¬ x < y → yS w p l e R s m args below meth c nL cells slots Q (pc + 3) loc stk G) : yS w p l e R s m args below meth c nL cells slots Q pc loc (.inl y :: .inl x :: stk) G := by
  intro H locs ls hR hS hl hk ho
  obtain ⟨hx, hb, hml, hown, hts, hK⟩ := C
  have hy' : zR y := yok_hd hk
  have hx' : zR x := yok_hd (yok_tl hk)
  exact lv_icmp_lt hx hb hd ht (fun q => kt ((zi_lt hx' hy').mp q) H locs ls hR hS hl (yok_tl (yok_tl hk)) ho) (fun q => kf (fun z => q ((zi_lt hx' hy').mpr z)) H locs ls hR hS hl (yok_tl (yok_tl hk)) ho)
theorem y_icmp_ge (C : zC w p s m args c nL cc own) {x y : Int} {off : Int} {tgt : Nat} (hd : decode cc pc = .ok (.if_icmp .ge off, 3)) (ht : (pc : Int) + off = (tgt : Int))
    (kt : y ≤ x → yS w p l e R s m args below meth c nL cells slots Q tgt loc stk G) (kf : ¬ y ≤ x → yS w p l e R s m args below meth c nL cells slots Q (pc + 3) loc stk G) : yS w p l e R s m args below meth c nL cells slots Q pc loc (.inl y :: .inl x :: stk) G := by
  intro H locs ls hR hS hl hk ho
  obtain ⟨hx, hb, hml, hown, hts, hK⟩ := C
  have hy' : zR y := yok_hd hk
  have hx' : zR x := yok_hd (yok_tl hk)
  exact lv_icmp_ge hx hb hd ht (fun q => kt ((zi_le hy' hx').mp q) H locs ls hR hS hl (yok_tl (yok_tl hk)) ho) (fun q => kf (fun z => q ((zi_le hy' hx').mpr z)) H locs ls hR hS hl (yok_tl (yok_tl hk)) ho)
theorem y_icmp_gt (C : zC w p s m args c nL cc own) {x y : Int} {off : Int} {tgt : Nat} (hd : decode cc pc = .ok (.if_icmp .gt off, 3)) (ht : (pc : Int) + off = (tgt : Int))
    (kt : y < x → yS w p l e R s m args below meth c nL cells slots Q tgt loc stk G) (kf : ¬ y < x → yS w p l e R s m args below meth c nL cells slots Q (pc + 3) loc stk G) : yS w p l e R s m args below meth c nL cells slots Q pc loc (.inl y :: .inl x :: stk) G := by
  intro H locs ls hR hS hl hk ho
  obtain ⟨hx, hb, hml, hown, hts, hK⟩ := C
  have hy' : zR y := yok_hd hk
  have hx' : zR x := yok_hd (yok_tl hk)
  exact lv_icmp_gt hx hb hd ht (fun q => kt ((zi_lt hy' hx').mp q) H locs ls hR hS hl (yok_tl (yok_tl hk)) ho) (fun q => kf (fun z => q ((zi_lt hy' hx').mpr z)) H locs ls hR hS hl (yok_tl (yok_tl hk)) ho)
theorem y_icmp_le (C : zC w p s m args c nL cc own) {x y : Int} {off : Int} {tgt : Nat} (hd : decode cc pc = .ok (.if_icmp .le off, 3)) (ht : (pc : Int) + off = (tgt : Int))
    (kt : x ≤ y → yS w p l e R s m args below meth c nL cells slots Q tgt loc stk G) (kf : ¬ x ≤ y → yS w p l e R s m args below meth c nL cells slots Q (pc + 3) loc stk G) : yS w p l e R s m args below meth c nL cells slots Q pc loc (.inl y :: .inl x :: stk) G := by
  intro H locs ls hR hS hl hk ho
  obtain ⟨hx, hb, hml, hown, hts, hK⟩ := C
  have hy' : zR y := yok_hd hk
  have hx' : zR x := yok_hd (yok_tl hk)
  exact lv_icmp_le hx hb hd ht (fun q => kt ((zi_le hx' hy').mp q) H locs ls hR hS hl (yok_tl (yok_tl hk)) ho) (fun q => kf (fun z => q ((zi_le hx' hy').mpr z)) H locs ls hR hS hl (yok_tl (yok_tl hk)) ho)
theorem y_if_eq (C : zC w p s m args c nL cc own) {x : Int} {off : Int} {tgt : Nat} (hd : decode cc pc = .ok (.ifCond .eq off, 3)) (ht : (pc : Int) + off = (tgt : Int))
    (kt : x = 0 → yS w p l e R s m args below meth c nL cells slots Q tgt loc stk G) (kf : ¬ x = 0 → yS w p l e R s m args below meth c nL cells slots Q (pc + 3) loc stk G) : yS w p l e R s m args below meth c nL cells slots Q pc loc (.inl x :: stk) G := by
  intro H locs ls hR hS hl hk ho
  obtain ⟨hx, hb, hml, hown, hts, hK⟩ := C
  have h0 : zR 0 := zR_0
  have hx' : zR x := yok_hd hk
  exact lv_if_eq hx hb hd ht (fun q => kt ((zi_eq hx' h0).mp (by rw [← zi_0] at q; exact q)) H locs ls hR hS hl (yok_tl hk) ho) (fun q => kf (fun z => q (by rw [← zi_0]; exact (zi_eq hx' h0).mpr z)) H locs ls hR hS hl (yok_tl hk) ho)
theorem y_if_ne (C : zC w p s m args c nL cc own) {x : Int} {off : Int} {tgt : Nat} (hd : decode cc pc = .ok (.ifCond .ne off, 3)) (ht : (pc : Int) + off = (tgt : Int))
    (kt : ¬ x = 0 → yS w p l e R s m args below meth c nL cells slots Q tgt loc stk G) (kf : x = 0 → yS w p l e R s m args below meth c nL cells slots Q (pc + 3) loc stk G) : yS w p l e R s m args below meth c nL cells slots Q pc loc (.inl x :: stk) G := by
  intro H locs ls hR hS hl hk ho
  obtain ⟨hx, hb, hml, hown, hts, hK⟩ := C
  have h0 : zR 0 := zR_0
  have hx' : zR x := yok_hd hk
  exact lv_if_ne hx hb hd ht (fun q => kt (fun z => q (by rw [← zi_0]; exact (zi_eq hx' h0).mpr z)) H locs ls hR hS hl (yok_tl hk) ho) (fun q => kf ((zi_eq hx' h0).mp (by rw [← zi_0] at q; exact q)) H locs ls hR hS hl (yok_tl hk) ho)
theorem y_if_lt (C : zC w p s m args c nL cc own) {x : Int} {off : Int} {tgt : Nat} (hd : decode cc pc = .ok (.ifCond .lt off, 3)) (ht : (pc : Int) + off = (tgt : Int))
    (kt : x < 0 → yS w p l e R s m args below meth c nL cells slots Q tgt loc stk G) (kf : ¬ x < 0 → yS w p l e R s m args below meth c nL cells slots Q (pc + 3) loc stk G) : yS w p l e R s m args below meth c nL cells slots Q pc loc (.inl x :: stk) G := by
  intro H locs ls hR hS hl hk ho
  obtain ⟨hx, hb, hml, hown, hts, hK⟩ := C
  have h0 : zR 0 := zR_0
  have hx' : zR x := yok_hd hk
  exact lv_if_lt hx hb hd ht (fun q => kt ((zi_lt hx' h0).mp (by rw [← zi_0] at q; exact q)) H locs ls hR hS hl (yok_tl hk) ho) (fun q => kf (fun z => q (by rw [← zi_0]; exact (zi_lt hx' h0).mpr z)) H locs ls hR hS hl (yok_tl hk) ho)
theorem y_if_ge (C : zC w p s m args c nL cc own) {x : Int} {off : Int} {tgt : Nat} (hd : decode cc pc = .ok (.ifCond .ge off, 3)) (ht : (pc : Int) + off = (tgt : Int))
    (kt : 0 ≤ x → yS w p l e R s m args below meth c nL cells slots Q tgt loc stk G) (kf : ¬ 0 ≤ x → yS w p l e R s m args below meth c nL cells slots Q (pc + 3) loc stk G) : yS w p l e R s m args below meth c nL cells slots Q pc loc (.inl x :: stk) G := by
  intro H locs ls hR hS hl hk ho
  obtain ⟨hx, hb, hml, hown, hts, hK⟩ := C
  have h0 : zR 0 := zR_0
  have hx' : zR x := yok_hd hk
  exact lv_if_ge hx hb hd ht (fun q => kt ((zi_le h0 hx').mp (by rw [← zi_0] at q; exact q)) H locs ls hR hS hl (yok_tl hk) ho) (fun q => kf (fun z => q (by rw [← zi_0]; exact (zi_le h0 hx').mpr z)) H locs ls hR hS hl (yok_tl hk) ho)
theorem y_if_gt (C : zC w p s m args c nL cc own) {x : Int} {off : Int} {tgt : Nat} (hd : decode cc pc = .ok (.ifCond .gt off, 3)) (ht : (pc : Int) + off = (tgt : Int))
    (kt : 0 < x → yS w p l e R s m args below meth c nL cells slots Q tgt loc stk G) (kf : ¬ 0 < x → yS w p l e R s m args below meth c nL cells slots Q (pc + 3) loc stk G) : yS w p l e R s m args below meth c nL cells slots Q pc loc (.inl x :: stk) G := by
  intro H locs ls hR hS hl hk ho
  obtain ⟨hx, hb, hml, hown, hts, hK⟩ := C
  have h0 : zR 0 := zR_0
  have hx' : zR x := yok_hd hk
  exact lv_if_gt hx hb hd ht (fun q => kt ((zi_lt h0 hx').mp (by rw [← zi_0] at q; exact q)) H locs ls hR hS hl (yok_tl hk) ho) (fun q => kf (fun z => q (by rw [← zi_0]; exact (zi_lt h0 hx').mpr z)) H locs ls hR hS hl (yok_tl hk) ho)
theorem y_if_le (C : zC w p s m args c nL cc own) {x : Int} {off : Int} {tgt : Nat} (hd : decode cc pc = .ok (.ifCond .le off, 3)) (ht : (pc : Int) + off = (tgt : Int))
    (kt : x ≤ 0 → yS w p l e R s m args below meth c nL cells slots Q tgt loc stk G) (kf : ¬ x ≤ 0 → yS w p l e R s m args below meth c nL cells slots Q (pc + 3) loc stk G) : yS w p l e R s m args below meth c nL cells slots Q pc loc (.inl x :: stk) G := by
  intro H locs ls hR hS hl hk ho
  obtain ⟨hx, hb, hml, hown, hts, hK⟩ := C
  have h0 : zR 0 := zR_0
  have hx' : zR x := yok_hd hk
  exact lv_if_le hx hb hd ht (fun q => kt ((zi_le hx' h0).mp (by rw [← zi_0] at q; exact q)) H locs ls hR hS hl (yok_tl hk) ho) (fun q => kf (fun z => q (by rw [← zi_0]; exact (zi_le hx' h0).mpr z)) H locs ls hR hS hl (yok_tl hk) ho)
theorem y_dup_x1 (C : zC w p s m args c nL cc own) {v u : zv} (hd : decode cc pc = .ok (.dup_x1, 1))
    (kk : yS w p l e R s m args below meth c nL cells slots Q (pc + 1) loc (v :: u :: v :: stk) G) : yS w p l e R s m args below meth c nL cells slots Q pc loc (v :: u :: stk) G := by
  intro H locs ls hR hS hl hk ho
  obtain ⟨hx, hb, hml, hown, hts, hK⟩ := C
  exact lv_dup_x1 hx hb hd (zval_cat v) (zval_cat u) (kk H locs ls hR hS hl (yok_cons (yok_hd hk) (yok_cons (yok_hd (yok_tl hk)) (yok_cons (yok_hd hk) (yok_tl (yok_tl hk))))) ho)
theorem y_ifnonnull (C : zC w p s m args c nL cc own) {q : Nat × Nat} {off : Int} {tgt : Nat} (hd : decode cc pc = .ok (.ifnonnull off, 3)) (ht : (pc : Int) + off = (tgt : Int))
    (kk : yS w p l e R s m args below meth c nL cells slots Q tgt loc stk G) : yS w p l e R s m args below meth c nL cells slots Q pc loc (.inr q :: stk) G := by
  intro H locs ls hR hS hl hk ho
  obtain ⟨hx, hb, hml, hown, hts, hK⟩ := C
  exact lv_ifnonnull hx hb hd ht (kk H locs ls hR hS hl (yok_tl hk) ho)
/-- what is known of the numbers at hand, and of the heap -/
theorem y_rng (kk : (∀ v ∈ stk, yok v) → (∀ v, some v ∈ loc → yok v) → yS w p l e R s m args below meth c nL cells slots Q pc loc stk G) : yS w p l e R s m args below meth c nL cells slots Q pc loc stk G := by
  intro H locs ls hR hS hl hk ho
  exact kk hk ho H locs ls hR hS hl hk ho
theorem y_to {G' : Heap → Prop} (hG : ∀ H, G H → G' H) (kk : yS w p l e R s m args below meth c nL cells slots Q pc loc stk G') : yS w p l e R s m args below meth c nL cells slots Q pc loc stk G := by
  intro H locs ls hR hS hl hk ho
  exact kk H locs ls (hG H hR) hS hl hk ho
/-- a number by its name -/
theorem y_num {x y : Int} (hxy : x = y) (kk : yS w p l e R s m args below meth c nL cells slots Q pc loc (.inl y :: stk) G) : yS w p l e R s m args below meth c nL cells slots Q pc loc (.inl x :: stk) G := by
  rw [hxy]
  exact kk
end YS
