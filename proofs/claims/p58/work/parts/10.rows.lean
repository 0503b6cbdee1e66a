/-! One row an instruction, over the pool. -/
def zC (w : zW) (p : Program) (s : State) (m : MethodId) (args : Array Value) (c : Code) (nL : Nat) (cc : ByteArray) (own : String) : Prop :=
  p.tables.exec = Jvm.exec ∧ c.code = cc ∧ c.maxLocals = nL ∧ s.vm.findClass own = some m.cls ∧ (∀ x ∈ zw_T, x.before args s = true) ∧ zKn w s
def zV (w : zW) (p : Program) (l : Launch) (e : Env) (R : Room) (s : State) (m : MethodId) (args : Array Value) (below : List Frame) (meth : Method) (c : Code) (nL cells slots : Nat) (Q : State → Prop) (pc : Nat) (loc : List (Option zv)) (stk : List zv) (h : zH) : Prop :=
  ∀ (H : Heap) (locs : List Loc) (ls : Array Slot), zRel w h H → va_S (zA w) s.heap H locs → lv_has ls nL (zlo 0 loc) → (∀ v ∈ stk, zok w v) → (∀ v, some v ∈ loc → zok w v) → W p l e R s m args below meth c H locs cells slots Q (F0 m pc ls (stk.map zval))
section ZV
variable {w : zW} {p : Program} {l : Launch} {e : Env} {R : Room} {s : State} {m : MethodId} {args : Array Value} {below : List Frame} {meth : Method} {c : Code} {nL cells slots : Nat} {Q : State → Prop}
variable {cc : ByteArray} {own : String} {pc : Nat} {loc : List (Option zv)} {stk : List zv} {h : zH}
theorem zok_cons {v : zv} (h1 : zok w v) (h2 : ∀ v ∈ stk, zok w v) : ∀ u ∈ v :: stk, zok w u := fun u hu => (List.mem_cons.mp hu).elim (fun e => by rw [e]; exact h1) (h2 u)
theorem zok_tl {v : zv} (h2 : ∀ u ∈ v :: stk, zok w u) : ∀ u ∈ stk, zok w u := fun u hu => h2 u (List.mem_cons_of_mem _ hu)
theorem zok_hd {v : zv} (h2 : ∀ u ∈ v :: stk, zok w u) : zok w v := h2 v List.mem_cons_self
theorem zok_loc {i : Nat} {v : zv} (ho : ∀ v, some v ∈ loc → zok w v) (hi : loc[i]? = some (some v)) : zok w v := ho v (List.mem_of_getElem? hi)
theorem zok_set {i : Nat} {v : zv} (ho : ∀ v, some v ∈ loc → zok w v) (hv : zok w v) : ∀ u, some u ∈ loc.set i (some v) → zok w u := fun u hu => by
  rcases List.mem_or_eq_of_mem_set hu with h | h
  · exact ho u h
  · cases h
    exact hv
/-- what may be used of a state: the numbers of the pool are in range, and so are those at hand -/
theorem v_rng (kk : zRg h → zTy w h → (∀ v ∈ stk, zok w v) → (∀ v, some v ∈ loc → zok w v) → zV w p l e R s m args below meth c nL cells slots Q pc loc stk h) : zV w p l e R s m args below meth c nL cells slots Q pc loc stk h := by
  intro H locs ls hR hS hl hk ho
  exact kk hR.2.2.2.1 hR.2.2.1 hk ho H locs ls hR hS hl hk ho
/-- fewer locals -/
theorem v_loc {loc' : List (Option zv)} (hs : ∀ (k : Nat) (v : zv), loc'[k]? = some (some v) → loc[k]? = some (some v)) (kk : zV w p l e R s m args below meth c nL cells slots Q pc loc' stk h) : zV w p l e R s m args below meth c nL cells slots Q pc loc stk h := by
  intro H locs ls hR hS hl hk ho
  refine kk H locs ls hR hS (zlo_sub hl fun q hq => ?_) hk fun v hv => ?_
  · obtain ⟨k, v, h1, h2⟩ := zlo_mem.mp hq
    exact zlo_mem.mpr ⟨k, v, hs k v h1, h2⟩
  · obtain ⟨k, hk2⟩ := List.getElem?_of_mem hv
    exact ho v (List.mem_of_getElem? (hs k v hk2))

theorem v_iconst (C : zC w p s m args c nL cc own) {n : Int} (hd : decode cc pc = .ok (.iconst n, 1)) (hn : (decide (-2147483648 ≤ n) && decide (n < 2147483648)) = true)
    (kk : zV w p l e R s m args below meth c nL cells slots Q (pc + 1) loc (.inl n :: stk) h) : zV w p l e R s m args below meth c nL cells slots Q pc loc (stk) h := by
  intro H locs ls hR hS hl hk ho
  obtain ⟨hx, hb, hml, hown, hts, hK⟩ := C
  simp only [Bool.and_eq_true, decide_eq_true_eq] at hn
  exact lv_iconst (v := zi n) hx hb hd rfl (kk H locs ls hR hS hl (zok_cons hn hk) ho)
theorem v_bipush (C : zC w p s m args c nL cc own) {n : Int} (hd : decode cc pc = .ok (.bipush n, 2)) (hv : (Int8.ofInt n).toInt32 = zi n) (hn : (decide (-2147483648 ≤ n) && decide (n < 2147483648)) = true)
    (kk : zV w p l e R s m args below meth c nL cells slots Q (pc + 2) loc (.inl n :: stk) h) : zV w p l e R s m args below meth c nL cells slots Q pc loc (stk) h := by
  intro H locs ls hR hS hl hk ho
  obtain ⟨hx, hb, hml, hown, hts, hK⟩ := C
  simp only [Bool.and_eq_true, decide_eq_true_eq] at hn
  exact lv_bipush (v := zi n) hx hb hd hv (kk H locs ls hR hS hl (zok_cons hn hk) ho)
theorem v_sipush (C : zC w p s m args c nL cc own) {n : Int} (hd : decode cc pc = .ok (.sipush n, 3)) (hv : (Int16.ofInt n).toInt32 = zi n) (hn : (decide (-2147483648 ≤ n) && decide (n < 2147483648)) = true)
    (kk : zV w p l e R s m args below meth c nL cells slots Q (pc + 3) loc (.inl n :: stk) h) : zV w p l e R s m args below meth c nL cells slots Q pc loc (stk) h := by
  intro H locs ls hR hS hl hk ho
  obtain ⟨hx, hb, hml, hown, hts, hK⟩ := C
  simp only [Bool.and_eq_true, decide_eq_true_eq] at hn
  exact lv_sipush (v := zi n) hx hb hd hv (kk H locs ls hR hS hl (zok_cons hn hk) ho)
theorem v_ldc (C : zC w p s m args c nL cc own) {n : Int} {idx : Nat} (hd : decode cc pc = .ok (.ldc idx, 2)) (hm : Cond.constant own idx (zi n) ∈ zw_T) (hn : (decide (-2147483648 ≤ n) && decide (n < 2147483648)) = true)
    (kk : zV w p l e R s m args below meth c nL cells slots Q (pc + 2) loc (.inl n :: stk) h) : zV w p l e R s m args below meth c nL cells slots Q pc loc (stk) h := by
  intro H locs ls hR hS hl hk ho
  obtain ⟨hx, hb, hml, hown, hts, hK⟩ := C
  simp only [Bool.and_eq_true, decide_eq_true_eq] at hn
  exact lv_ldc (v := zi n) hx hb hown (hts _ hm) hd (kk H locs ls hR hS hl (zok_cons hn hk) ho)
theorem v_iload_n (C : zC w p s m args c nL cc own) {k : Fin 4} {x : Int} (hd : decode cc pc = .ok (.iload_n k, 1)) (hi : loc[(k : Nat)]? = some (some (.inl x)))
    (kk : zV w p l e R s m args below meth c nL cells slots Q (pc + 1) loc (.inl x :: stk) h) : zV w p l e R s m args below meth c nL cells slots Q pc loc (stk) h := by
  intro H locs ls hR hS hl hk ho
  obtain ⟨hx, hb, hml, hown, hts, hK⟩ := C
  exact lv_iload_n (x := zi x) hx hb hd rfl (zlo_get hl hi) (kk H locs ls hR hS hl (zok_cons (zok_loc ho hi) hk) ho)
theorem v_iload (C : zC w p s m args c nL cc own) {i : Nat} {x : Int} (hd : decode cc pc = .ok (.iload i, 2)) (hi : loc[i]? = some (some (.inl x)))
    (kk : zV w p l e R s m args below meth c nL cells slots Q (pc + 2) loc (.inl x :: stk) h) : zV w p l e R s m args below meth c nL cells slots Q pc loc (stk) h := by
  intro H locs ls hR hS hl hk ho
  obtain ⟨hx, hb, hml, hown, hts, hK⟩ := C
  exact lv_iload (x := zi x) hx hb hd (zlo_get hl hi) (kk H locs ls hR hS hl (zok_cons (zok_loc ho hi) hk) ho)
theorem v_aload_n (C : zC w p s m args c nL cc own) {k : Fin 4} {q : Nat × Nat} (hd : decode cc pc = .ok (.aload_n k, 1)) (hi : loc[(k : Nat)]? = some (some (.inr q)))
    (kk : zV w p l e R s m args below meth c nL cells slots Q (pc + 1) loc (.inr q :: stk) h) : zV w p l e R s m args below meth c nL cells slots Q pc loc (stk) h := by
  intro H locs ls hR hS hl hk ho
  obtain ⟨hx, hb, hml, hown, hts, hK⟩ := C
  exact lv_aload_n (x := q.2) hx hb hd rfl (zlo_get hl hi) (kk H locs ls hR hS hl (zok_cons (zok_loc ho hi) hk) ho)
theorem v_aload (C : zC w p s m args c nL cc own) {i : Nat} {q : Nat × Nat} (hd : decode cc pc = .ok (.aload i, 2)) (hi : loc[i]? = some (some (.inr q)))
    (kk : zV w p l e R s m args below meth c nL cells slots Q (pc + 2) loc (.inr q :: stk) h) : zV w p l e R s m args below meth c nL cells slots Q pc loc (stk) h := by
  intro H locs ls hR hS hl hk ho
  obtain ⟨hx, hb, hml, hown, hts, hK⟩ := C
  exact lv_aload (x := q.2) hx hb hd (zlo_get hl hi) (kk H locs ls hR hS hl (zok_cons (zok_loc ho hi) hk) ho)
theorem v_istore_n (C : zC w p s m args c nL cc own) {k : Fin 4} {x : Int} (hd : decode cc pc = .ok (.istore_n k, 1)) (hn : (k : Nat) < nL)
    (kk : zV w p l e R s m args below meth c nL cells slots Q (pc + 1) (loc.set (k : Nat) (some (.inl x))) (stk) h) : zV w p l e R s m args below meth c nL cells slots Q pc loc (.inl x :: stk) h := by
  intro H locs ls hR hS hl hk ho
  obtain ⟨hx, hb, hml, hown, hts, hK⟩ := C
  exact lv_istore_n (x := zi x) hx hb hd rfl hl hn rfl fun ls' hl' => kk H locs ls' hR hS (zlo_set (v := .inl x) hl') (zok_tl hk) (zok_set ho (zok_hd hk))
theorem v_istore (C : zC w p s m args c nL cc own) {i : Nat} {x : Int} (hd : decode cc pc = .ok (.istore i, 2)) (hn : i < nL)
    (kk : zV w p l e R s m args below meth c nL cells slots Q (pc + 2) (loc.set i (some (.inl x))) (stk) h) : zV w p l e R s m args below meth c nL cells slots Q pc loc (.inl x :: stk) h := by
  intro H locs ls hR hS hl hk ho
  obtain ⟨hx, hb, hml, hown, hts, hK⟩ := C
  exact lv_istore (x := zi x) hx hb hd hl hn rfl fun ls' hl' => kk H locs ls' hR hS (zlo_set (v := .inl x) hl') (zok_tl hk) (zok_set ho (zok_hd hk))
theorem v_astore_n (C : zC w p s m args c nL cc own) {k : Fin 4} {x : Nat × Nat} (hd : decode cc pc = .ok (.astore_n k, 1)) (hn : (k : Nat) < nL)
    (kk : zV w p l e R s m args below meth c nL cells slots Q (pc + 1) (loc.set (k : Nat) (some (.inr x))) (stk) h) : zV w p l e R s m args below meth c nL cells slots Q pc loc (.inr x :: stk) h := by
  intro H locs ls hR hS hl hk ho
  obtain ⟨hx, hb, hml, hown, hts, hK⟩ := C
  exact lv_astore_n (x := x.2) hx hb hd rfl hl hn rfl fun ls' hl' => kk H locs ls' hR hS (zlo_set (v := .inr x) hl') (zok_tl hk) (zok_set ho (zok_hd hk))
theorem v_astore (C : zC w p s m args c nL cc own) {i : Nat} {x : Nat × Nat} (hd : decode cc pc = .ok (.astore i, 2)) (hn : i < nL)
    (kk : zV w p l e R s m args below meth c nL cells slots Q (pc + 2) (loc.set i (some (.inr x))) (stk) h) : zV w p l e R s m args below meth c nL cells slots Q pc loc (.inr x :: stk) h := by
  intro H locs ls hR hS hl hk ho
  obtain ⟨hx, hb, hml, hown, hts, hK⟩ := C
  exact lv_astore (x := x.2) hx hb hd hl hn rfl fun ls' hl' => kk H locs ls' hR hS (zlo_set (v := .inr x) hl') (zok_tl hk) (zok_set ho (zok_hd hk))
theorem v_iinc (C : zC w p s m args c nL cc own) {i : Nat} {n x : Int} (hd : decode cc pc = .ok (.iinc i n, 3)) (hi : loc[i]? = some (some (.inl x))) (hn : i < nL)
    (kk : zV w p l e R s m args below meth c nL cells slots Q (pc + 3) (loc.set i (some (.inl (zw (x + n))))) (stk) h) : zV w p l e R s m args below meth c nL cells slots Q pc loc (stk) h := by
  intro H locs ls hR hS hl hk ho
  obtain ⟨hx, hb, hml, hown, hts, hK⟩ := C
  obtain ⟨k, hk2⟩ := List.getElem?_of_mem (zlo_mem.mpr ⟨i, .inl x, hi, rfl⟩ : ((0 + i, zval (.inl x)) : Nat × Value) ∈ zlo 0 loc)
  rw [Nat.zero_add] at hk2
  exact lv_iinc (v := zi (zw (x + n))) hx hb hd hl hk2 (zi_add x n) hn rfl fun ls' hl' => kk H locs ls' hR hS (zlo_set (v := .inl (zw (x + n))) hl') hk (zok_set ho (zw_R _))
theorem v_iadd (C : zC w p s m args c nL cc own) {x y : Int} (hd : decode cc pc = .ok (.iadd, 1))
    (kk : zV w p l e R s m args below meth c nL cells slots Q (pc + 1) loc (.inl (zw (x + y)) :: stk) h) : zV w p l e R s m args below meth c nL cells slots Q pc loc (.inl y :: .inl x :: stk) h := by
  intro H locs ls hR hS hl hk ho
  obtain ⟨hx, hb, hml, hown, hts, hK⟩ := C
  have hy' : zR y := zok_hd hk
  have hx' : zR x := zok_hd (zok_tl hk)
  refine lv_iadd hx hb hd ?_
  rw [show zi x + zi y = zi (zw (x + y)) from zi_add x y]
  exact kk H locs ls hR hS hl (zok_cons (zw_R _) (zok_tl (zok_tl hk))) ho
theorem v_isub (C : zC w p s m args c nL cc own) {x y : Int} (hd : decode cc pc = .ok (.isub, 1))
    (kk : zV w p l e R s m args below meth c nL cells slots Q (pc + 1) loc (.inl (zw (x - y)) :: stk) h) : zV w p l e R s m args below meth c nL cells slots Q pc loc (.inl y :: .inl x :: stk) h := by
  intro H locs ls hR hS hl hk ho
  obtain ⟨hx, hb, hml, hown, hts, hK⟩ := C
  have hy' : zR y := zok_hd hk
  have hx' : zR x := zok_hd (zok_tl hk)
  refine lv_isub hx hb hd ?_
  rw [show zi x - zi y = zi (zw (x - y)) from zi_sub x y]
  exact kk H locs ls hR hS hl (zok_cons (zw_R _) (zok_tl (zok_tl hk))) ho
theorem v_imul (C : zC w p s m args c nL cc own) {x y : Int} (hd : decode cc pc = .ok (.imul, 1))
    (kk : zV w p l e R s m args below meth c nL cells slots Q (pc + 1) loc (.inl (zw (x * y)) :: stk) h) : zV w p l e R s m args below meth c nL cells slots Q pc loc (.inl y :: .inl x :: stk) h := by
  intro H locs ls hR hS hl hk ho
  obtain ⟨hx, hb, hml, hown, hts, hK⟩ := C
  have hy' : zR y := zok_hd hk
  have hx' : zR x := zok_hd (zok_tl hk)
  refine lv_imul hx hb hd ?_
  rw [show zi x * zi y = zi (zw (x * y)) from zi_mul hx' hy']
  exact kk H locs ls hR hS hl (zok_cons (zw_R _) (zok_tl (zok_tl hk))) ho
theorem v_idiv (C : zC w p s m args c nL cc own) {x y : Int} (hd : decode cc pc = .ok (.idiv, 1)) (hne : ¬ y = 0)
    (kk : zV w p l e R s m args below meth c nL cells slots Q (pc + 1) loc (.inl (zw (x.tdiv y)) :: stk) h) : zV w p l e R s m args below meth c nL cells slots Q pc loc (.inl y :: .inl x :: stk) h := by
  intro H locs ls hR hS hl hk ho
  obtain ⟨hx, hb, hml, hown, hts, hK⟩ := C
  have hy' : zR y := zok_hd hk
  have hx' : zR x := zok_hd (zok_tl hk)
  refine lv_idiv hx hb hd (fun q => hne ((zi_eq hy' zR_0).mp (by rw [zi_0]; exact q))) ?_
  rw [show zi x / zi y = zi (zw (x.tdiv y)) from zi_div hx' hy']
  exact kk H locs ls hR hS hl (zok_cons (zw_R _) (zok_tl (zok_tl hk))) ho
theorem v_irem (C : zC w p s m args c nL cc own) {x y : Int} (hd : decode cc pc = .ok (.irem, 1)) (hne : ¬ y = 0)
    (kk : zV w p l e R s m args below meth c nL cells slots Q (pc + 1) loc (.inl (x.tmod y) :: stk) h) : zV w p l e R s m args below meth c nL cells slots Q pc loc (.inl y :: .inl x :: stk) h := by
  intro H locs ls hR hS hl hk ho
  obtain ⟨hx, hb, hml, hown, hts, hK⟩ := C
  have hy' : zR y := zok_hd hk
  have hx' : zR x := zok_hd (zok_tl hk)
  refine lv_irem hx hb hd (fun q => hne ((zi_eq hy' zR_0).mp (by rw [zi_0]; exact q))) ?_
  rw [show zi x - zi x / zi y * zi y = zi (x.tmod y) from zi_remsub hx' hy']
  exact kk H locs ls hR hS hl (zok_cons (zR_rem hx' hy') (zok_tl (zok_tl hk))) ho
theorem v_iand (C : zC w p s m args c nL cc own) {x y : Int} (hd : decode cc pc = .ok (.iand, 1))
    (kk : zV w p l e R s m args below meth c nL cells slots Q (pc + 1) loc (.inl (zand x y) :: stk) h) : zV w p l e R s m args below meth c nL cells slots Q pc loc (.inl y :: .inl x :: stk) h := by
  intro H locs ls hR hS hl hk ho
  obtain ⟨hx, hb, hml, hown, hts, hK⟩ := C
  have hy' : zR y := zok_hd hk
  have hx' : zR x := zok_hd (zok_tl hk)
  refine lv_iand hx hb hd ?_
  rw [show zi x &&& zi y = zi (zand x y) from (zi_of _).symm]
  exact kk H locs ls hR hS hl (zok_cons (zR_of _) (zok_tl (zok_tl hk))) ho
theorem v_ior (C : zC w p s m args c nL cc own) {x y : Int} (hd : decode cc pc = .ok (.ior, 1))
    (kk : zV w p l e R s m args below meth c nL cells slots Q (pc + 1) loc (.inl (zor x y) :: stk) h) : zV w p l e R s m args below meth c nL cells slots Q pc loc (.inl y :: .inl x :: stk) h := by
  intro H locs ls hR hS hl hk ho
  obtain ⟨hx, hb, hml, hown, hts, hK⟩ := C
  have hy' : zR y := zok_hd hk
  have hx' : zR x := zok_hd (zok_tl hk)
  refine lv_ior hx hb hd ?_
  rw [show zi x ||| zi y = zi (zor x y) from (zi_of _).symm]
  exact kk H locs ls hR hS hl (zok_cons (zR_of _) (zok_tl (zok_tl hk))) ho
theorem v_ixor (C : zC w p s m args c nL cc own) {x y : Int} (hd : decode cc pc = .ok (.ixor, 1))
    (kk : zV w p l e R s m args below meth c nL cells slots Q (pc + 1) loc (.inl (zxor x y) :: stk) h) : zV w p l e R s m args below meth c nL cells slots Q pc loc (.inl y :: .inl x :: stk) h := by
  intro H locs ls hR hS hl hk ho
  obtain ⟨hx, hb, hml, hown, hts, hK⟩ := C
  have hy' : zR y := zok_hd hk
  have hx' : zR x := zok_hd (zok_tl hk)
  refine lv_ixor hx hb hd ?_
  rw [show zi x ^^^ zi y = zi (zxor x y) from (zi_of _).symm]
  exact kk H locs ls hR hS hl (zok_cons (zR_of _) (zok_tl (zok_tl hk))) ho
theorem v_ishl (C : zC w p s m args c nL cc own) {x y : Int} (hd : decode cc pc = .ok (.ishl, 1))
    (kk : zV w p l e R s m args below meth c nL cells slots Q (pc + 1) loc (.inl (zshl x y) :: stk) h) : zV w p l e R s m args below meth c nL cells slots Q pc loc (.inl y :: .inl x :: stk) h := by
  intro H locs ls hR hS hl hk ho
  obtain ⟨hx, hb, hml, hown, hts, hK⟩ := C
  have hy' : zR y := zok_hd hk
  have hx' : zR x := zok_hd (zok_tl hk)
  refine lv_ishl hx hb hd ?_
  rw [show zi x <<< (zi y &&& 31) = zi (zshl x y) from (zi_of _).symm]
  exact kk H locs ls hR hS hl (zok_cons (zR_of _) (zok_tl (zok_tl hk))) ho
theorem v_ishr (C : zC w p s m args c nL cc own) {x y : Int} (hd : decode cc pc = .ok (.ishr, 1))
    (kk : zV w p l e R s m args below meth c nL cells slots Q (pc + 1) loc (.inl (zshr x y) :: stk) h) : zV w p l e R s m args below meth c nL cells slots Q pc loc (.inl y :: .inl x :: stk) h := by
  intro H locs ls hR hS hl hk ho
  obtain ⟨hx, hb, hml, hown, hts, hK⟩ := C
  have hy' : zR y := zok_hd hk
  have hx' : zR x := zok_hd (zok_tl hk)
  refine lv_ishr hx hb hd ?_
  rw [show zi x >>> (zi y &&& 31) = zi (zshr x y) from (zi_of _).symm]
  exact kk H locs ls hR hS hl (zok_cons (zR_of _) (zok_tl (zok_tl hk))) ho
theorem v_ineg (C : zC w p s m args c nL cc own) {x : Int} (hd : decode cc pc = .ok (.ineg, 1))
    (kk : zV w p l e R s m args below meth c nL cells slots Q (pc + 1) loc (.inl (zw (-x)) :: stk) h) : zV w p l e R s m args below meth c nL cells slots Q pc loc (.inl x :: stk) h := by
  intro H locs ls hR hS hl hk ho
  obtain ⟨hx, hb, hml, hown, hts, hK⟩ := C
  refine lv_ineg hx hb hd ?_
  rw [show -zi x = zi (zw (-x)) from zi_neg x]
  exact kk H locs ls hR hS hl (zok_cons (zw_R _) (zok_tl hk)) ho
theorem v_i2b (C : zC w p s m args c nL cc own) {x : Int} (hd : decode cc pc = .ok (.i2b, 1))
    (kk : zV w p l e R s m args below meth c nL cells slots Q (pc + 1) loc (.inl (zi2b x) :: stk) h) : zV w p l e R s m args below meth c nL cells slots Q pc loc (.inl x :: stk) h := by
  intro H locs ls hR hS hl hk ho
  obtain ⟨hx, hb, hml, hown, hts, hK⟩ := C
  refine lv_i2b (v := zi (zi2b x)) hx hb hd (zi_of _).symm ?_
  exact kk H locs ls hR hS hl (zok_cons (zR_of _) (zok_tl hk)) ho
theorem v_dup (C : zC w p s m args c nL cc own) {v : zv} (hd : decode cc pc = .ok (.dup, 1))
    (kk : zV w p l e R s m args below meth c nL cells slots Q (pc + 1) loc (v :: v :: stk) h) : zV w p l e R s m args below meth c nL cells slots Q pc loc (v :: stk) h := by
  intro H locs ls hR hS hl hk ho
  obtain ⟨hx, hb, hml, hown, hts, hK⟩ := C
  exact lv_dup hx hb hd (zval_cat v) (kk H locs ls hR hS hl (zok_cons (zok_hd hk) hk) ho)
theorem v_dup2 (C : zC w p s m args c nL cc own) {v u : zv} (hd : decode cc pc = .ok (.dup2, 1))
    (kk : zV w p l e R s m args below meth c nL cells slots Q (pc + 1) loc (v :: u :: v :: u :: stk) h) : zV w p l e R s m args below meth c nL cells slots Q pc loc (v :: u :: stk) h := by
  intro H locs ls hR hS hl hk ho
  obtain ⟨hx, hb, hml, hown, hts, hK⟩ := C
  exact lv_dup2_11 hx hb hd (zval_cat v) (zval_cat u) (kk H locs ls hR hS hl (zok_cons (zok_hd hk) (zok_cons (zok_hd (zok_tl hk)) hk)) ho)
theorem v_pop (C : zC w p s m args c nL cc own) {v : zv} (hd : decode cc pc = .ok (.pop, 1))
    (kk : zV w p l e R s m args below meth c nL cells slots Q (pc + 1) loc (stk) h) : zV w p l e R s m args below meth c nL cells slots Q pc loc (v :: stk) h := by
  intro H locs ls hR hS hl hk ho
  obtain ⟨hx, hb, hml, hown, hts, hK⟩ := C
  exact lv_pop hx hb hd (zval_cat v) (kk H locs ls hR hS hl (zok_tl hk) ho)
theorem v_goto (C : zC w p s m args c nL cc own) {off : Int} {tgt : Nat} (hd : decode cc pc = .ok (.goto off, 3)) (ht : (pc : Int) + off = (tgt : Int))
    (kk : zV w p l e R s m args below meth c nL cells slots Q tgt loc (stk) h) : zV w p l e R s m args below meth c nL cells slots Q pc loc (stk) h := by
  intro H locs ls hR hS hl hk ho
  obtain ⟨hx, hb, hml, hown, hts, hK⟩ := C
  exact lv_goto hx hb hd ht (kk H locs ls hR hS hl hk ho)

theorem v_icmp_eq (C : zC w p s m args c nL cc own) {x y : Int} {off : Int} {tgt : Nat} (hd : decode cc pc = .ok (.if_icmp .eq off, 3)) (ht : (pc : Int) + off = (tgt : Int))
    (kt : x = y → zV w p l e R s m args below meth c nL cells slots Q tgt loc stk h) (kf : ¬ x = y → zV w p l e R s m args below meth c nL cells slots Q (pc + 3) loc stk h) : zV w p l e R s m args below meth c nL cells slots Q pc loc (.inl y :: .inl x :: stk) h := by
  intro H locs ls hR hS hl hk ho
  obtain ⟨hx, hb, hml, hown, hts, hK⟩ := C
  have hy' : zR y := zok_hd hk
  have hx' : zR x := zok_hd (zok_tl hk)
  exact lv_icmp_eq hx hb hd ht (fun q => kt ((zi_eq hx' hy').mp q) H locs ls hR hS hl (zok_tl (zok_tl hk)) ho) (fun q => kf (fun z => q ((zi_eq hx' hy').mpr z)) H locs ls hR hS hl (zok_tl (zok_tl hk)) ho)
theorem v_if_eq (C : zC w p s m args c nL cc own) {x : Int} {off : Int} {tgt : Nat} (hd : decode cc pc = .ok (.ifCond .eq off, 3)) (ht : (pc : Int) + off = (tgt : Int))
    (kt : x = 0 → zV w p l e R s m args below meth c nL cells slots Q tgt loc stk h) (kf : ¬ x = 0 → zV w p l e R s m args below meth c nL cells slots Q (pc + 3) loc stk h) : zV w p l e R s m args below meth c nL cells slots Q pc loc (.inl x :: stk) h := by
  intro H locs ls hR hS hl hk ho
  obtain ⟨hx, hb, hml, hown, hts, hK⟩ := C
  have h0 : zR 0 := zR_0
  have hx' : zR x := zok_hd hk
  exact lv_if_eq hx hb hd ht (fun q => kt ((zi_eq hx' h0).mp (by rw [← zi_0] at q; exact q)) H locs ls hR hS hl (zok_tl hk) ho) (fun q => kf (fun z => q (by rw [← zi_0]; exact (zi_eq hx' h0).mpr z)) H locs ls hR hS hl (zok_tl hk) ho)
theorem v_icmp_ne (C : zC w p s m args c nL cc own) {x y : Int} {off : Int} {tgt : Nat} (hd : decode cc pc = .ok (.if_icmp .ne off, 3)) (ht : (pc : Int) + off = (tgt : Int))
    (kt : ¬ x = y → zV w p l e R s m args below meth c nL cells slots Q tgt loc stk h) (kf : x = y → zV w p l e R s m args below meth c nL cells slots Q (pc + 3) loc stk h) : zV w p l e R s m args below meth c nL cells slots Q pc loc (.inl y :: .inl x :: stk) h := by
  intro H locs ls hR hS hl hk ho
  obtain ⟨hx, hb, hml, hown, hts, hK⟩ := C
  have hy' : zR y := zok_hd hk
  have hx' : zR x := zok_hd (zok_tl hk)
  exact lv_icmp_ne hx hb hd ht (fun q => kt (fun z => q ((zi_eq hx' hy').mpr z)) H locs ls hR hS hl (zok_tl (zok_tl hk)) ho) (fun q => kf ((zi_eq hx' hy').mp q) H locs ls hR hS hl (zok_tl (zok_tl hk)) ho)
theorem v_if_ne (C : zC w p s m args c nL cc own) {x : Int} {off : Int} {tgt : Nat} (hd : decode cc pc = .ok (.ifCond .ne off, 3)) (ht : (pc : Int) + off = (tgt : Int))
    (kt : ¬ x = 0 → zV w p l e R s m args below meth c nL cells slots Q tgt loc stk h) (kf : x = 0 → zV w p l e R s m args below meth c nL cells slots Q (pc + 3) loc stk h) : zV w p l e R s m args below meth c nL cells slots Q pc loc (.inl x :: stk) h := by
  intro H locs ls hR hS hl hk ho
  obtain ⟨hx, hb, hml, hown, hts, hK⟩ := C
  have h0 : zR 0 := zR_0
  have hx' : zR x := zok_hd hk
  exact lv_if_ne hx hb hd ht (fun q => kt (fun z => q (by rw [← zi_0]; exact (zi_eq hx' h0).mpr z)) H locs ls hR hS hl (zok_tl hk) ho) (fun q => kf ((zi_eq hx' h0).mp (by rw [← zi_0] at q; exact q)) H locs ls hR hS hl (zok_tl hk) ho)
theorem v_icmp_lt (C : zC w p s m args c nL cc own) {x y : Int} {off : Int} {tgt : Nat} (hd : decode cc pc = .ok (.if_icmp .lt off, 3)) (ht : (pc : Int) + off = (tgt : Int))
    (kt : x < y → zV w p l e R s m args below meth c nL cells slots Q tgt loc stk h) (kf : ¬ x < y → zV w p l e R s m args below meth c nL cells slots Q (pc + 3) loc stk h) : zV w p l e R s m args below meth c nL cells slots Q pc loc (.inl y :: .inl x :: stk) h := by
  intro H locs ls hR hS hl hk ho
  obtain ⟨hx, hb, hml, hown, hts, hK⟩ := C
  have hy' : zR y := zok_hd hk
  have hx' : zR x := zok_hd (zok_tl hk)
  exact lv_icmp_lt hx hb hd ht (fun q => kt ((zi_lt hx' hy').mp q) H locs ls hR hS hl (zok_tl (zok_tl hk)) ho) (fun q => kf (fun z => q ((zi_lt hx' hy').mpr z)) H locs ls hR hS hl (zok_tl (zok_tl hk)) ho)
theorem v_if_lt (C : zC w p s m args c nL cc own) {x : Int} {off : Int} {tgt : Nat} (hd : decode cc pc = .ok (.ifCond .lt off, 3)) (ht : (pc : Int) + off = (tgt : Int))
    (kt : x < 0 → zV w p l e R s m args below meth c nL cells slots Q tgt loc stk h) (kf : ¬ x < 0 → zV w p l e R s m args below meth c nL cells slots Q (pc + 3) loc stk h) : zV w p l e R s m args below meth c nL cells slots Q pc loc (.inl x :: stk) h := by
  intro H locs ls hR hS hl hk ho
  obtain ⟨hx, hb, hml, hown, hts, hK⟩ := C
  have h0 : zR 0 := zR_0
  have hx' : zR x := zok_hd hk
  exact lv_if_lt hx hb hd ht (fun q => kt ((zi_lt hx' h0).mp (by rw [← zi_0] at q; exact q)) H locs ls hR hS hl (zok_tl hk) ho) (fun q => kf (fun z => q (by rw [← zi_0]; exact (zi_lt hx' h0).mpr z)) H locs ls hR hS hl (zok_tl hk) ho)
theorem v_icmp_ge (C : zC w p s m args c nL cc own) {x y : Int} {off : Int} {tgt : Nat} (hd : decode cc pc = .ok (.if_icmp .ge off, 3)) (ht : (pc : Int) + off = (tgt : Int))
    (kt : y ≤ x → zV w p l e R s m args below meth c nL cells slots Q tgt loc stk h) (kf : ¬ y ≤ x → zV w p l e R s m args below meth c nL cells slots Q (pc + 3) loc stk h) : zV w p l e R s m args below meth c nL cells slots Q pc loc (.inl y :: .inl x :: stk) h := by
  intro H locs ls hR hS hl hk ho
  obtain ⟨hx, hb, hml, hown, hts, hK⟩ := C
  have hy' : zR y := zok_hd hk
  have hx' : zR x := zok_hd (zok_tl hk)
  exact lv_icmp_ge hx hb hd ht (fun q => kt ((zi_le hy' hx').mp q) H locs ls hR hS hl (zok_tl (zok_tl hk)) ho) (fun q => kf (fun z => q ((zi_le hy' hx').mpr z)) H locs ls hR hS hl (zok_tl (zok_tl hk)) ho)
theorem v_if_ge (C : zC w p s m args c nL cc own) {x : Int} {off : Int} {tgt : Nat} (hd : decode cc pc = .ok (.ifCond .ge off, 3)) (ht : (pc : Int) + off = (tgt : Int))
    (kt : 0 ≤ x → zV w p l e R s m args below meth c nL cells slots Q tgt loc stk h) (kf : ¬ 0 ≤ x → zV w p l e R s m args below meth c nL cells slots Q (pc + 3) loc stk h) : zV w p l e R s m args below meth c nL cells slots Q pc loc (.inl x :: stk) h := by
  intro H locs ls hR hS hl hk ho
  obtain ⟨hx, hb, hml, hown, hts, hK⟩ := C
  have h0 : zR 0 := zR_0
  have hx' : zR x := zok_hd hk
  exact lv_if_ge hx hb hd ht (fun q => kt ((zi_le h0 hx').mp (by rw [← zi_0] at q; exact q)) H locs ls hR hS hl (zok_tl hk) ho) (fun q => kf (fun z => q (by rw [← zi_0]; exact (zi_le h0 hx').mpr z)) H locs ls hR hS hl (zok_tl hk) ho)
theorem v_icmp_gt (C : zC w p s m args c nL cc own) {x y : Int} {off : Int} {tgt : Nat} (hd : decode cc pc = .ok (.if_icmp .gt off, 3)) (ht : (pc : Int) + off = (tgt : Int))
    (kt : y < x → zV w p l e R s m args below meth c nL cells slots Q tgt loc stk h) (kf : ¬ y < x → zV w p l e R s m args below meth c nL cells slots Q (pc + 3) loc stk h) : zV w p l e R s m args below meth c nL cells slots Q pc loc (.inl y :: .inl x :: stk) h := by
  intro H locs ls hR hS hl hk ho
  obtain ⟨hx, hb, hml, hown, hts, hK⟩ := C
  have hy' : zR y := zok_hd hk
  have hx' : zR x := zok_hd (zok_tl hk)
  exact lv_icmp_gt hx hb hd ht (fun q => kt ((zi_lt hy' hx').mp q) H locs ls hR hS hl (zok_tl (zok_tl hk)) ho) (fun q => kf (fun z => q ((zi_lt hy' hx').mpr z)) H locs ls hR hS hl (zok_tl (zok_tl hk)) ho)
theorem v_if_gt (C : zC w p s m args c nL cc own) {x : Int} {off : Int} {tgt : Nat} (hd : decode cc pc = .ok (.ifCond .gt off, 3)) (ht : (pc : Int) + off = (tgt : Int))
    (kt : 0 < x → zV w p l e R s m args below meth c nL cells slots Q tgt loc stk h) (kf : ¬ 0 < x → zV w p l e R s m args below meth c nL cells slots Q (pc + 3) loc stk h) : zV w p l e R s m args below meth c nL cells slots Q pc loc (.inl x :: stk) h := by
  intro H locs ls hR hS hl hk ho
  obtain ⟨hx, hb, hml, hown, hts, hK⟩ := C
  have h0 : zR 0 := zR_0
  have hx' : zR x := zok_hd hk
  exact lv_if_gt hx hb hd ht (fun q => kt ((zi_lt h0 hx').mp (by rw [← zi_0] at q; exact q)) H locs ls hR hS hl (zok_tl hk) ho) (fun q => kf (fun z => q (by rw [← zi_0]; exact (zi_lt h0 hx').mpr z)) H locs ls hR hS hl (zok_tl hk) ho)
theorem v_icmp_le (C : zC w p s m args c nL cc own) {x y : Int} {off : Int} {tgt : Nat} (hd : decode cc pc = .ok (.if_icmp .le off, 3)) (ht : (pc : Int) + off = (tgt : Int))
    (kt : x ≤ y → zV w p l e R s m args below meth c nL cells slots Q tgt loc stk h) (kf : ¬ x ≤ y → zV w p l e R s m args below meth c nL cells slots Q (pc + 3) loc stk h) : zV w p l e R s m args below meth c nL cells slots Q pc loc (.inl y :: .inl x :: stk) h := by
  intro H locs ls hR hS hl hk ho
  obtain ⟨hx, hb, hml, hown, hts, hK⟩ := C
  have hy' : zR y := zok_hd hk
  have hx' : zR x := zok_hd (zok_tl hk)
  exact lv_icmp_le hx hb hd ht (fun q => kt ((zi_le hx' hy').mp q) H locs ls hR hS hl (zok_tl (zok_tl hk)) ho) (fun q => kf (fun z => q ((zi_le hx' hy').mpr z)) H locs ls hR hS hl (zok_tl (zok_tl hk)) ho)
theorem v_if_le (C : zC w p s m args c nL cc own) {x : Int} {off : Int} {tgt : Nat} (hd : decode cc pc = .ok (.ifCond .le off, 3)) (ht : (pc : Int) + off = (tgt : Int))
    (kt : x ≤ 0 → zV w p l e R s m args below meth c nL cells slots Q tgt loc stk h) (kf : ¬ x ≤ 0 → zV w p l e R s m args below meth c nL cells slots Q (pc + 3) loc stk h) : zV w p l e R s m args below meth c nL cells slots Q pc loc (.inl x :: stk) h := by
  intro H locs ls hR hS hl hk ho
  obtain ⟨hx, hb, hml, hown, hts, hK⟩ := C
  have h0 : zR 0 := zR_0
  have hx' : zR x := zok_hd hk
  exact lv_if_le hx hb hd ht (fun q => kt ((zi_le hx' h0).mp (by rw [← zi_0] at q; exact q)) H locs ls hR hS hl (zok_tl hk) ho) (fun q => kf (fun z => q (by rw [← zi_0]; exact (zi_le hx' h0).mpr z)) H locs ls hR hS hl (zok_tl hk) ho)
theorem zE_obj {a ci : Nat} (hka : zwK w a = ci + 1) (hc : ci < 9) : zE w h a = .inr (ci, (List.range (zn ci)).map (zslot ci h a)) := by
  unfold zE zEk
  rw [hka, Nat.add_sub_cancel, if_pos hc]
theorem zE_arr {a k : Nat} (hka : zwK w a = k + 1) (hc : 9 ≤ k) : zE w h a = .inl (zwA w k, (zar k).1, zcont k h a) := by
  unfold zE zEk
  rw [hka, Nat.add_sub_cancel, if_neg (by omega)]
theorem zRel.get {H : Heap} {a k : Nat} (hR : zRel w h H) (hka : zwK w a = k + 1) (hk22 : k < 22) : ∃ i : Nat, ([] ++ va_pl (zwL w) (zE w h))[i]? = some (a, zE w h a) := va_pl_get (hR.2.2.2.2 a ⟨by omega, by omega⟩)
theorem v_getI (C : zC w p s m args c nL cc own) {idx ci j a : Nat} (hd : decode cc pc = .ok (.getfield idx, 3)) (hf : zFld own idx ci j) (ht : zft ci j = 0)
    (kk : zV w p l e R s m args below meth c nL cells slots Q (pc + 3) loc (.inl (h.1 a j) :: stk) h) : zV w p l e R s m args below meth c nL cells slots Q pc loc (.inr (ci, a) :: stk) h := by
  intro H locs ls hR hS hl hk ho
  obtain ⟨hx, hb, hml, hown, hts, hK⟩ := C
  obtain ⟨hc9, Cn, T, N, f1, f2, f3, f4, f5⟩ := hf
  have hka : zwK w a = ci + 1 := zok_hd hk
  obtain ⟨i, hi⟩ := hR.get hka (by omega)
  rw [zE_obj hka hc9] at hi
  refine va_get (D := zwD w) (cl := vwCl) (ci := ci) (v := .int (zi (h.1 a j))) (C := Cn) (T := T) (N := N) hx hb hts f2 hown hK.1 hR.1 i hi f1 j f3 (hts _ f5) (fun _ h9 => h9) ?_ hd (kk H locs ls hR hS hl (zok_cons (hR.2.2.2.1 a j) (zok_tl hk)) ho)
  rw [List.getElem?_map, List.getElem?_range (by omega)]
  simp [zslot, ht]
theorem v_getR (C : zC w p s m args c nL cc own) {idx ci j a k : Nat} (hd : decode cc pc = .ok (.getfield idx, 3)) (hf : zFld own idx ci j) (ht : zft ci j = k + 1)
    (kk : zV w p l e R s m args below meth c nL cells slots Q (pc + 3) loc (.inr (k, h.2 a j) :: stk) h) : zV w p l e R s m args below meth c nL cells slots Q pc loc (.inr (ci, a) :: stk) h := by
  intro H locs ls hR hS hl hk ho
  obtain ⟨hx, hb, hml, hown, hts, hK⟩ := C
  obtain ⟨hc9, Cn, T, N, f1, f2, f3, f4, f5⟩ := hf
  have hka : zwK w a = ci + 1 := zok_hd hk
  obtain ⟨i, hi⟩ := hR.get hka (by omega)
  rw [zE_obj hka hc9] at hi
  have hok : zwK w (h.2 a j) = k + 1 := by
    have h1 := hR.2.2.1 a j (by omega)
    rw [hka, Nat.add_sub_cancel, ht] at h1
    exact h1 (by omega) (by omega)
  refine va_get (D := zwD w) (cl := vwCl) (ci := ci) (v := .ref (h.2 a j)) (C := Cn) (T := T) (N := N) hx hb hts f2 hown hK.1 hR.1 i hi f1 j f3 (hts _ f5) (fun _ h9 => h9) ?_ hd (kk H locs ls hR hS hl (zok_cons (v := .inr (k, h.2 a j)) hok (zok_tl hk)) ho)
  rw [List.getElem?_map, List.getElem?_range (by omega)]
  simp [zslot, ht]
def zput (h : zH) (a j : Nat) (x : Int) : zH := (fun b i => if b = a ∧ i = j then x else h.1 b i, h.2)
def zputR (h : zH) (a j b : Nat) : zH := (h.1, fun q i => if q = a ∧ i = j then b else h.2 q i)
theorem zRel.step {H1 : Heap} {h1 : zH} {a i : Nat} {e : va_E} (hR : zRel w h H1 ∨ ∃ H, zRel w h H) (hk0 : zwK w a ≠ 0 ∧ zwK w a ≤ 22) (hi : ([] ++ va_pl (zwL w) (zE w h))[i]? = some (a, zE w h a))
    (hP : va_P (zwD w) vwCl (([] ++ va_pl (zwL w) (zE w h)).set i (a, e)) H1) (hD : va_D (zA w) (([] ++ va_pl (zwL w) (zE w h)).set i (a, e))) (he : ∀ b, zE w h1 b = va_up (zE w h) a e b) (hT : zTy w h1) (hG : zRg h1) : zRel w h1 H1 := by
  have hX : ∃ H, zRel w h H := hR.elim (fun q => ⟨_, q⟩) id
  obtain ⟨H, hX⟩ := hX
  rw [va_pl_set hX.2.1 (hX.2.2.2.2 a hk0) hi] at hP hD
  rw [← va_pl_congr he] at hP hD
  exact ⟨hP, hD, hT, hG, hX.2.2.2.2⟩
theorem zRg.put {a j : Nat} {x : Int} (hg : zRg h) (hx : zR x) : zRg (zput h a j x) := by
  intro b i
  show zR (if b = a ∧ i = j then x else h.1 b i)
  split
  · exact hx
  · exact hg b i
theorem zE_put {a ci j : Nat} {x : Int} (hka : zwK w a = ci + 1) (hc : ci < 9) (ht : zft ci j = 0) : ∀ b, zE w (zput h a j x) b = va_up (zE w h) a (.inr (ci, ((List.range (zn ci)).map (zslot ci h a)).set j (.int (zi x)))) b := by
  intro b
  by_cases hb : b = a
  · subst hb
    rw [va_up_self, zE_obj hka hc]
    congr 2
    apply List.ext_getElem?
    intro i
    rw [List.getElem?_set]
    simp only [List.getElem?_map, List.length_map, List.length_range]
    by_cases hl : i < zn ci
    · rw [List.getElem?_range hl]
      by_cases hij : j = i
      · subst hij
        rw [if_pos rfl, if_pos hl]
        simp [zslot, ht, zput]
      · rw [if_neg hij]
        simp [zslot, zput, Ne.symm hij]
    · rw [List.getElem?_eq_none (by rw [List.length_range]; omega)]
      by_cases hij : j = i
      · subst hij
        rw [if_pos rfl, if_neg hl]
        rfl
      · rw [if_neg hij]
        rfl
  · rw [va_up_ne _ _ hb]
    unfold zE zEk
    have e1 : ∀ k, zslot k (zput h a j x) b = zslot k h b := by
      intro k
      funext i
      unfold zslot zput
      simp [hb]
    have e2 : ∀ k, zcont k (zput h a j x) b = zcont k h b := by
      intro k
      unfold zcont zput
      simp [hb]
    simp only [e1, e2]

end ZV
