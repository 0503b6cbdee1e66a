section QP
variable {α : Type} {w : zW} {p : Program} {l : Launch} {e : Env} {R : Room} {s : State} {m : MethodId} {args : Array Value} {below : List Frame} {meth : Method} {c : Code} {nL : Nat} {f : α → Option zv} {E : Option α}
variable {cc : ByteArray} {own : String} {pc : Nat} {loc : List (Option zv)} {stk : List zv} {h : zH}
theorem p_none : zQP w p l e R s m args below meth c nL f none pc loc stk h := fun _ z => by cases z
theorem p_iconst (C : zC w p s m args c nL cc own) {n : Int} (hd : decode cc pc = .ok (.iconst n, 1)) (hn : (decide (-2147483648 ≤ n) && decide (n < 2147483648)) = true) (kk : zQP w p l e R s m args below meth c nL f E (pc + 1) loc (.inl n :: stk) h) : zQP w p l e R s m args below meth c nL f E pc loc (stk) h :=
  fun r z => v_iconst C hd hn (kk r z)
theorem p_bipush (C : zC w p s m args c nL cc own) {n : Int} (hd : decode cc pc = .ok (.bipush n, 2)) (hv : (Int8.ofInt n).toInt32 = zi n) (hn : (decide (-2147483648 ≤ n) && decide (n < 2147483648)) = true) (kk : zQP w p l e R s m args below meth c nL f E (pc + 2) loc (.inl n :: stk) h) : zQP w p l e R s m args below meth c nL f E pc loc (stk) h :=
  fun r z => v_bipush C hd hv hn (kk r z)
theorem p_sipush (C : zC w p s m args c nL cc own) {n : Int} (hd : decode cc pc = .ok (.sipush n, 3)) (hv : (Int16.ofInt n).toInt32 = zi n) (hn : (decide (-2147483648 ≤ n) && decide (n < 2147483648)) = true) (kk : zQP w p l e R s m args below meth c nL f E (pc + 3) loc (.inl n :: stk) h) : zQP w p l e R s m args below meth c nL f E pc loc (stk) h :=
  fun r z => v_sipush C hd hv hn (kk r z)
theorem p_ldc (C : zC w p s m args c nL cc own) {n : Int} {idx : Nat} (hd : decode cc pc = .ok (.ldc idx, 2)) (hm : Cond.constant own idx (zi n) ∈ zw_T) (hn : (decide (-2147483648 ≤ n) && decide (n < 2147483648)) = true) (kk : zQP w p l e R s m args below meth c nL f E (pc + 2) loc (.inl n :: stk) h) : zQP w p l e R s m args below meth c nL f E pc loc (stk) h :=
  fun r z => v_ldc C hd hm hn (kk r z)
theorem p_ldcw (C : zC w p s m args c nL cc own) {n : Int} {idx : Nat} (hd : decode cc pc = .ok (.ldc_w idx, 3)) (hm : Cond.constant own idx (zi n) ∈ zw_T) (hn : (decide (-2147483648 ≤ n) && decide (n < 2147483648)) = true) (kk : zQP w p l e R s m args below meth c nL f E (pc + 3) loc (.inl n :: stk) h) : zQP w p l e R s m args below meth c nL f E pc loc (stk) h :=
  fun r z => v_ldcw C hd hm hn (kk r z)
theorem p_iload_n (C : zC w p s m args c nL cc own) {k : Fin 4} {x : Int} (hd : decode cc pc = .ok (.iload_n k, 1)) (hi : loc[(k : Nat)]? = some (some (.inl x))) (kk : zQP w p l e R s m args below meth c nL f E (pc + 1) loc (.inl x :: stk) h) : zQP w p l e R s m args below meth c nL f E pc loc (stk) h :=
  fun r z => v_iload_n C hd hi (kk r z)
theorem p_iload (C : zC w p s m args c nL cc own) {i : Nat} {x : Int} (hd : decode cc pc = .ok (.iload i, 2)) (hi : loc[i]? = some (some (.inl x))) (kk : zQP w p l e R s m args below meth c nL f E (pc + 2) loc (.inl x :: stk) h) : zQP w p l e R s m args below meth c nL f E pc loc (stk) h :=
  fun r z => v_iload C hd hi (kk r z)
theorem p_aload_n (C : zC w p s m args c nL cc own) {k : Fin 4} {q : Nat × Nat} (hd : decode cc pc = .ok (.aload_n k, 1)) (hi : loc[(k : Nat)]? = some (some (.inr q))) (kk : zQP w p l e R s m args below meth c nL f E (pc + 1) loc (.inr q :: stk) h) : zQP w p l e R s m args below meth c nL f E pc loc (stk) h :=
  fun r z => v_aload_n C hd hi (kk r z)
theorem p_aload (C : zC w p s m args c nL cc own) {i : Nat} {q : Nat × Nat} (hd : decode cc pc = .ok (.aload i, 2)) (hi : loc[i]? = some (some (.inr q))) (kk : zQP w p l e R s m args below meth c nL f E (pc + 2) loc (.inr q :: stk) h) : zQP w p l e R s m args below meth c nL f E pc loc (stk) h :=
  fun r z => v_aload C hd hi (kk r z)
theorem p_istore_n (C : zC w p s m args c nL cc own) {k : Fin 4} {x : Int} (hd : decode cc pc = .ok (.istore_n k, 1)) (hn : (k : Nat) < nL) (kk : zQP w p l e R s m args below meth c nL f E (pc + 1) (loc.set (k : Nat) (some (.inl x))) (stk) h) : zQP w p l e R s m args below meth c nL f E pc loc (.inl x :: stk) h :=
  fun r z => v_istore_n C hd hn (kk r z)
theorem p_istore (C : zC w p s m args c nL cc own) {i : Nat} {x : Int} (hd : decode cc pc = .ok (.istore i, 2)) (hn : i < nL) (kk : zQP w p l e R s m args below meth c nL f E (pc + 2) (loc.set i (some (.inl x))) (stk) h) : zQP w p l e R s m args below meth c nL f E pc loc (.inl x :: stk) h :=
  fun r z => v_istore C hd hn (kk r z)
theorem p_astore_n (C : zC w p s m args c nL cc own) {k : Fin 4} {x : Nat × Nat} (hd : decode cc pc = .ok (.astore_n k, 1)) (hn : (k : Nat) < nL) (kk : zQP w p l e R s m args below meth c nL f E (pc + 1) (loc.set (k : Nat) (some (.inr x))) (stk) h) : zQP w p l e R s m args below meth c nL f E pc loc (.inr x :: stk) h :=
  fun r z => v_astore_n C hd hn (kk r z)
theorem p_astore (C : zC w p s m args c nL cc own) {i : Nat} {x : Nat × Nat} (hd : decode cc pc = .ok (.astore i, 2)) (hn : i < nL) (kk : zQP w p l e R s m args below meth c nL f E (pc + 2) (loc.set i (some (.inr x))) (stk) h) : zQP w p l e R s m args below meth c nL f E pc loc (.inr x :: stk) h :=
  fun r z => v_astore C hd hn (kk r z)
theorem p_iinc (C : zC w p s m args c nL cc own) {i : Nat} {n x : Int} (hd : decode cc pc = .ok (.iinc i n, 3)) (hi : loc[i]? = some (some (.inl x))) (hn : i < nL) (kk : zQP w p l e R s m args below meth c nL f E (pc + 3) (loc.set i (some (.inl (zw (x + n))))) (stk) h) : zQP w p l e R s m args below meth c nL f E pc loc (stk) h :=
  fun r z => v_iinc C hd hi hn (kk r z)
theorem p_iadd (C : zC w p s m args c nL cc own) {x y : Int} (hd : decode cc pc = .ok (.iadd, 1)) (kk : zQP w p l e R s m args below meth c nL f E (pc + 1) loc (.inl (zw (x + y)) :: stk) h) : zQP w p l e R s m args below meth c nL f E pc loc (.inl y :: .inl x :: stk) h :=
  fun r z => v_iadd C hd (kk r z)
theorem p_isub (C : zC w p s m args c nL cc own) {x y : Int} (hd : decode cc pc = .ok (.isub, 1)) (kk : zQP w p l e R s m args below meth c nL f E (pc + 1) loc (.inl (zw (x - y)) :: stk) h) : zQP w p l e R s m args below meth c nL f E pc loc (.inl y :: .inl x :: stk) h :=
  fun r z => v_isub C hd (kk r z)
theorem p_imul (C : zC w p s m args c nL cc own) {x y : Int} (hd : decode cc pc = .ok (.imul, 1)) (kk : zQP w p l e R s m args below meth c nL f E (pc + 1) loc (.inl (zw (x * y)) :: stk) h) : zQP w p l e R s m args below meth c nL f E pc loc (.inl y :: .inl x :: stk) h :=
  fun r z => v_imul C hd (kk r z)
theorem p_iand (C : zC w p s m args c nL cc own) {x y : Int} (hd : decode cc pc = .ok (.iand, 1)) (kk : zQP w p l e R s m args below meth c nL f E (pc + 1) loc (.inl (zand x y) :: stk) h) : zQP w p l e R s m args below meth c nL f E pc loc (.inl y :: .inl x :: stk) h :=
  fun r z => v_iand C hd (kk r z)
theorem p_ior (C : zC w p s m args c nL cc own) {x y : Int} (hd : decode cc pc = .ok (.ior, 1)) (kk : zQP w p l e R s m args below meth c nL f E (pc + 1) loc (.inl (zor x y) :: stk) h) : zQP w p l e R s m args below meth c nL f E pc loc (.inl y :: .inl x :: stk) h :=
  fun r z => v_ior C hd (kk r z)
theorem p_ixor (C : zC w p s m args c nL cc own) {x y : Int} (hd : decode cc pc = .ok (.ixor, 1)) (kk : zQP w p l e R s m args below meth c nL f E (pc + 1) loc (.inl (zxor x y) :: stk) h) : zQP w p l e R s m args below meth c nL f E pc loc (.inl y :: .inl x :: stk) h :=
  fun r z => v_ixor C hd (kk r z)
theorem p_ishl (C : zC w p s m args c nL cc own) {x y : Int} (hd : decode cc pc = .ok (.ishl, 1)) (kk : zQP w p l e R s m args below meth c nL f E (pc + 1) loc (.inl (zshl x y) :: stk) h) : zQP w p l e R s m args below meth c nL f E pc loc (.inl y :: .inl x :: stk) h :=
  fun r z => v_ishl C hd (kk r z)
theorem p_ishr (C : zC w p s m args c nL cc own) {x y : Int} (hd : decode cc pc = .ok (.ishr, 1)) (kk : zQP w p l e R s m args below meth c nL f E (pc + 1) loc (.inl (zshr x y) :: stk) h) : zQP w p l e R s m args below meth c nL f E pc loc (.inl y :: .inl x :: stk) h :=
  fun r z => v_ishr C hd (kk r z)
theorem p_iushr (C : zC w p s m args c nL cc own) {x y : Int} (hd : decode cc pc = .ok (.iushr, 1)) (kk : zQP w p l e R s m args below meth c nL f E (pc + 1) loc (.inl (zushr x y) :: stk) h) : zQP w p l e R s m args below meth c nL f E pc loc (.inl y :: .inl x :: stk) h :=
  fun r z => v_iushr C hd (kk r z)
theorem p_ineg (C : zC w p s m args c nL cc own) {x : Int} (hd : decode cc pc = .ok (.ineg, 1)) (kk : zQP w p l e R s m args below meth c nL f E (pc + 1) loc (.inl (zw (-x)) :: stk) h) : zQP w p l e R s m args below meth c nL f E pc loc (.inl x :: stk) h :=
  fun r z => v_ineg C hd (kk r z)
theorem p_i2b (C : zC w p s m args c nL cc own) {x : Int} (hd : decode cc pc = .ok (.i2b, 1)) (kk : zQP w p l e R s m args below meth c nL f E (pc + 1) loc (.inl (zi2b x) :: stk) h) : zQP w p l e R s m args below meth c nL f E pc loc (.inl x :: stk) h :=
  fun r z => v_i2b C hd (kk r z)
theorem p_dup (C : zC w p s m args c nL cc own) {v : zv} (hd : decode cc pc = .ok (.dup, 1)) (kk : zQP w p l e R s m args below meth c nL f E (pc + 1) loc (v :: v :: stk) h) : zQP w p l e R s m args below meth c nL f E pc loc (v :: stk) h :=
  fun r z => v_dup C hd (kk r z)
theorem p_dup2 (C : zC w p s m args c nL cc own) {v u : zv} (hd : decode cc pc = .ok (.dup2, 1)) (kk : zQP w p l e R s m args below meth c nL f E (pc + 1) loc (v :: u :: v :: u :: stk) h) : zQP w p l e R s m args below meth c nL f E pc loc (v :: u :: stk) h :=
  fun r z => v_dup2 C hd (kk r z)
theorem p_pop (C : zC w p s m args c nL cc own) {v : zv} (hd : decode cc pc = .ok (.pop, 1)) (kk : zQP w p l e R s m args below meth c nL f E (pc + 1) loc (stk) h) : zQP w p l e R s m args below meth c nL f E pc loc (v :: stk) h :=
  fun r z => v_pop C hd (kk r z)
theorem p_goto (C : zC w p s m args c nL cc own) {off : Int} {tgt : Nat} (hd : decode cc pc = .ok (.goto off, 3)) (ht : (pc : Int) + off = (tgt : Int)) (kk : zQP w p l e R s m args below meth c nL f E tgt loc (stk) h) : zQP w p l e R s m args below meth c nL f E pc loc (stk) h :=
  fun r z => v_goto C hd ht (kk r z)
theorem p_getI (C : zC w p s m args c nL cc own) {idx ci j a : Nat} (hd : decode cc pc = .ok (.getfield idx, 3)) (hf : zFld own idx ci j) (ht : zft ci j = 0) (kk : zQP w p l e R s m args below meth c nL f E (pc + 3) loc (.inl (h.1 a j) :: stk) h) : zQP w p l e R s m args below meth c nL f E pc loc (.inr (ci, a) :: stk) h :=
  fun r z => v_getI C hd hf ht (kk r z)
theorem p_getR (C : zC w p s m args c nL cc own) {idx ci j a k : Nat} (hd : decode cc pc = .ok (.getfield idx, 3)) (hf : zFld own idx ci j) (ht : zft ci j = k + 1) (kk : zQP w p l e R s m args below meth c nL f E (pc + 3) loc (.inr (k, h.2 a j) :: stk) h) : zQP w p l e R s m args below meth c nL f E pc loc (.inr (ci, a) :: stk) h :=
  fun r z => v_getR C hd hf ht (kk r z)
theorem p_mmin (C : zC w p s m args c nL cc own) {idx : Nat} {x y : Int} (hd : decode cc pc = .ok (.invokestatic idx, 3)) (hm : Cond.methodLink own idx Lib.Math.min.name ∈ zw_T) (hR : 1 ≤ R.frames ∧ stk.length + 13 ≤ R.locals) (kk : zQP w p l e R s m args below meth c nL f E (pc + 3) loc (.inl (zmin x y) :: stk) h) : zQP w p l e R s m args below meth c nL f E pc loc (.inl y :: .inl x :: stk) h :=
  fun r z => v_mmin C hd hm hR ⟨Nat.zero_le _, Nat.zero_le _⟩ (kk r z)
theorem p_mmax (C : zC w p s m args c nL cc own) {idx : Nat} {x y : Int} (hd : decode cc pc = .ok (.invokestatic idx, 3)) (hm : Cond.methodLink own idx Lib.Math.max.name ∈ zw_T) (hR : 1 ≤ R.frames ∧ stk.length + 13 ≤ R.locals) (kk : zQP w p l e R s m args below meth c nL f E (pc + 3) loc (.inl (zmax x y) :: stk) h) : zQP w p l e R s m args below meth c nL f E pc loc (.inl y :: .inl x :: stk) h :=
  fun r z => v_mmax C hd hm hR ⟨Nat.zero_le _, Nat.zero_le _⟩ (kk r z)
theorem p_mabs (C : zC w p s m args c nL cc own) {idx : Nat} {x : Int} (hd : decode cc pc = .ok (.invokestatic idx, 3)) (hm : Cond.methodLink own idx Lib.Math.abs.name ∈ zw_T) (hR : 1 ≤ R.frames ∧ stk.length + 13 ≤ R.locals) (kk : zQP w p l e R s m args below meth c nL f E (pc + 3) loc (.inl (zabs x) :: stk) h) : zQP w p l e R s m args below meth c nL f E pc loc (.inl x :: stk) h :=
  fun r z => v_mabs C hd hm hR ⟨Nat.zero_le _, Nat.zero_le _⟩ (kk r z)
theorem p_ialdN (C : zC w p s m args c nL cc own) {k a n j : Nat} {i : Int} (hd : decode cc pc = .ok (.iaload, 1)) (hA : zIA k n .int) (hj : i = (j : Int)) (h1 : j < n) (kk : zQP w p l e R s m args below meth c nL f E (pc + 1) loc (.inl (h.1 a j) :: stk) h) : zQP w p l e R s m args below meth c nL f E pc loc (.inl i :: .inr (k, a) :: stk) h :=
  fun r z => v_ialdN C hd hA hj h1 (kk r z)
theorem p_baldN (C : zC w p s m args c nL cc own) {k a n j : Nat} {i : Int} (hd : decode cc pc = .ok (.baload, 1)) (hA : zIA k n .byte) (hj : i = (j : Int)) (h1 : j < n) (kk : zQP w p l e R s m args below meth c nL f E (pc + 1) loc (.inl (h.1 a j) :: stk) h) : zQP w p l e R s m args below meth c nL f E pc loc (.inl i :: .inr (k, a) :: stk) h :=
  fun r z => v_baldN C hd hA hj h1 (kk r z)
theorem p_aaldN (C : zC w p s m args c nL cc own) {k a n k' j : Nat} {i : Int} (hd : decode cc pc = .ok (.aaload, 1)) (hA : zRA k n k') (hj : i = (j : Int)) (h1 : j < n) (kk : zQP w p l e R s m args below meth c nL f E (pc + 1) loc (.inr (k', h.2 a j) :: stk) h) : zQP w p l e R s m args below meth c nL f E pc loc (.inl i :: .inr (k, a) :: stk) h :=
  fun r z => v_aaldN C hd hA hj h1 (kk r z)
theorem p_istore_nL (C : zC w p s m args c nL cc own) {k : Int → Option α} {i : Fin 4} {x : Int} (hd : decode cc pc = .ok (.istore_n i, 1)) (hn : (i : Nat) < nL) (kk : ∀ x, zQP w p l e R s m args below meth c nL f (k x) (pc + 1) (loc.set (i : Nat) (some (.inl x))) stk h) : zQP w p l e R s m args below meth c nL f (zlet x k) pc loc (.inl x :: stk) h :=
  fun r z => v_istore_n C hd hn (kk x r z)
theorem p_istoreL (C : zC w p s m args c nL cc own) {k : Int → Option α} {i : Nat} {x : Int} (hd : decode cc pc = .ok (.istore i, 2)) (hn : i < nL) (kk : ∀ x, zQP w p l e R s m args below meth c nL f (k x) (pc + 2) (loc.set i (some (.inl x))) stk h) : zQP w p l e R s m args below meth c nL f (zlet x k) pc loc (.inl x :: stk) h :=
  fun r z => v_istore C hd hn (kk x r z)
theorem p_astore_nL (C : zC w p s m args c nL cc own) {k : Nat → Option α} {i : Fin 4} {d x : Nat} (hd : decode cc pc = .ok (.astore_n i, 1)) (hn : (i : Nat) < nL) (kk : ∀ x, zQP w p l e R s m args below meth c nL f (k x) (pc + 1) (loc.set (i : Nat) (some (.inr (d, x)))) stk h) : zQP w p l e R s m args below meth c nL f (zlet x k) pc loc (.inr (d, x) :: stk) h :=
  fun r z => v_astore_n C hd hn (kk x r z)
theorem p_astoreL (C : zC w p s m args c nL cc own) {k : Nat → Option α} {i : Nat} {d x : Nat} (hd : decode cc pc = .ok (.astore i, 2)) (hn : i < nL) (kk : ∀ x, zQP w p l e R s m args below meth c nL f (k x) (pc + 2) (loc.set i (some (.inr (d, x)))) stk h) : zQP w p l e R s m args below meth c nL f (zlet x k) pc loc (.inr (d, x) :: stk) h :=
  fun r z => v_astore C hd hn (kk x r z)
theorem p_iincL (C : zC w p s m args c nL cc own) {k : Int → Option α} {i : Nat} {n x : Int} (hd : decode cc pc = .ok (.iinc i n, 3)) (hi : loc[i]? = some (some (.inl x))) (hn : i < nL) (kk : ∀ x, zQP w p l e R s m args below meth c nL f (k x) (pc + 3) (loc.set i (some (.inl x))) stk h) : zQP w p l e R s m args below meth c nL f (zlet (zw (x + n)) k) pc loc stk h :=
  fun r z => v_iinc C hd hi hn (kk _ r z)
theorem p_iald (C : zC w p s m args c nL cc own) {d a n : Nat} {i : Int} (hd : decode cc pc = .ok (.iaload, 1)) (hA : zIA d n .int) (kk : zQP w p l e R s m args below meth c nL f (E) (pc + 1) loc (.inl (h.1 a i.toNat) :: stk) h) : zQP w p l e R s m args below meth c nL f (zgi n i E) pc loc (.inl i :: .inr (d, a) :: stk) h :=
  fun r z => v_iald C hd hA (zgi_some z).1.1 (zgi_some z).1.2 (kk r (zgi_some z).2)
theorem p_bald (C : zC w p s m args c nL cc own) {d a n : Nat} {i : Int} (hd : decode cc pc = .ok (.baload, 1)) (hA : zIA d n .byte) (kk : zQP w p l e R s m args below meth c nL f (E) (pc + 1) loc (.inl (h.1 a i.toNat) :: stk) h) : zQP w p l e R s m args below meth c nL f (zgi n i E) pc loc (.inl i :: .inr (d, a) :: stk) h :=
  fun r z => v_bald C hd hA (zgi_some z).1.1 (zgi_some z).1.2 (kk r (zgi_some z).2)
theorem p_aald (C : zC w p s m args c nL cc own) {d a n d1 : Nat} {i : Int} (hd : decode cc pc = .ok (.aaload, 1)) (hA : zRA d n d1) (kk : zQP w p l e R s m args below meth c nL f (E) (pc + 1) loc (.inr (d1, h.2 a i.toNat) :: stk) h) : zQP w p l e R s m args below meth c nL f (zgi n i E) pc loc (.inl i :: .inr (d, a) :: stk) h :=
  fun r z => v_aald C hd hA (zgi_some z).1.1 (zgi_some z).1.2 (kk r (zgi_some z).2)
theorem p_idiv (C : zC w p s m args c nL cc own) {x y : Int} (hd : decode cc pc = .ok (.idiv, 1)) (kk : zQP w p l e R s m args below meth c nL f (E) (pc + 1) loc (.inl (zw (x.tdiv y)) :: stk) h) : zQP w p l e R s m args below meth c nL f (zgz y E) pc loc (.inl y :: .inl x :: stk) h :=
  fun r z => v_idiv C hd (zgz_some z).1 (kk r (zgz_some z).2)
theorem p_irem (C : zC w p s m args c nL cc own) {x y : Int} (hd : decode cc pc = .ok (.irem, 1)) (kk : zQP w p l e R s m args below meth c nL f (E) (pc + 1) loc (.inl (x.tmod y) :: stk) h) : zQP w p l e R s m args below meth c nL f (zgz y E) pc loc (.inl y :: .inl x :: stk) h :=
  fun r z => v_irem C hd (zgz_some z).1 (kk r (zgz_some z).2)
theorem p_icmp_eq (C : zC w p s m args c nL cc own) {A B : Option α} {x y : Int} {off : Int} {tgt : Nat} (hd : decode cc pc = .ok (.if_icmp .eq off, 3)) (ht : (pc : Int) + off = (tgt : Int)) (kt : zQP w p l e R s m args below meth c nL f (A) tgt loc stk h) (kf : zQP w p l e R s m args below meth c nL f (B) (pc + 3) loc stk h) : zQP w p l e R s m args below meth c nL f (if x = y then A else B) pc loc (.inl y :: .inl x :: stk) h :=
  fun r z => v_icmp_eq C hd ht (fun q => kt r (by rw [if_pos q] at z; exact z)) (fun q => kf r (by rw [if_neg q] at z; exact z))
theorem p_if_eq (C : zC w p s m args c nL cc own) {A B : Option α} {x : Int} {off : Int} {tgt : Nat} (hd : decode cc pc = .ok (.ifCond .eq off, 3)) (ht : (pc : Int) + off = (tgt : Int)) (kt : zQP w p l e R s m args below meth c nL f (A) tgt loc stk h) (kf : zQP w p l e R s m args below meth c nL f (B) (pc + 3) loc stk h) : zQP w p l e R s m args below meth c nL f (if x = 0 then A else B) pc loc (.inl x :: stk) h :=
  fun r z => v_if_eq C hd ht (fun q => kt r (by rw [if_pos q] at z; exact z)) (fun q => kf r (by rw [if_neg q] at z; exact z))
theorem p_icmp_ne (C : zC w p s m args c nL cc own) {A B : Option α} {x y : Int} {off : Int} {tgt : Nat} (hd : decode cc pc = .ok (.if_icmp .ne off, 3)) (ht : (pc : Int) + off = (tgt : Int)) (kt : zQP w p l e R s m args below meth c nL f (B) tgt loc stk h) (kf : zQP w p l e R s m args below meth c nL f (A) (pc + 3) loc stk h) : zQP w p l e R s m args below meth c nL f (if x = y then A else B) pc loc (.inl y :: .inl x :: stk) h :=
  fun r z => v_icmp_ne C hd ht (fun q => kt r (by rw [if_neg q] at z; exact z)) (fun q => kf r (by rw [if_pos q] at z; exact z))
theorem p_if_ne (C : zC w p s m args c nL cc own) {A B : Option α} {x : Int} {off : Int} {tgt : Nat} (hd : decode cc pc = .ok (.ifCond .ne off, 3)) (ht : (pc : Int) + off = (tgt : Int)) (kt : zQP w p l e R s m args below meth c nL f (B) tgt loc stk h) (kf : zQP w p l e R s m args below meth c nL f (A) (pc + 3) loc stk h) : zQP w p l e R s m args below meth c nL f (if x = 0 then A else B) pc loc (.inl x :: stk) h :=
  fun r z => v_if_ne C hd ht (fun q => kt r (by rw [if_neg q] at z; exact z)) (fun q => kf r (by rw [if_pos q] at z; exact z))
theorem p_icmp_lt (C : zC w p s m args c nL cc own) {A B : Option α} {x y : Int} {off : Int} {tgt : Nat} (hd : decode cc pc = .ok (.if_icmp .lt off, 3)) (ht : (pc : Int) + off = (tgt : Int)) (kt : zQP w p l e R s m args below meth c nL f (A) tgt loc stk h) (kf : zQP w p l e R s m args below meth c nL f (B) (pc + 3) loc stk h) : zQP w p l e R s m args below meth c nL f (if x < y then A else B) pc loc (.inl y :: .inl x :: stk) h :=
  fun r z => v_icmp_lt C hd ht (fun q => kt r (by rw [if_pos q] at z; exact z)) (fun q => kf r (by rw [if_neg q] at z; exact z))
theorem p_if_lt (C : zC w p s m args c nL cc own) {A B : Option α} {x : Int} {off : Int} {tgt : Nat} (hd : decode cc pc = .ok (.ifCond .lt off, 3)) (ht : (pc : Int) + off = (tgt : Int)) (kt : zQP w p l e R s m args below meth c nL f (A) tgt loc stk h) (kf : zQP w p l e R s m args below meth c nL f (B) (pc + 3) loc stk h) : zQP w p l e R s m args below meth c nL f (if x < 0 then A else B) pc loc (.inl x :: stk) h :=
  fun r z => v_if_lt C hd ht (fun q => kt r (by rw [if_pos q] at z; exact z)) (fun q => kf r (by rw [if_neg q] at z; exact z))
theorem p_icmp_ge (C : zC w p s m args c nL cc own) {A B : Option α} {x y : Int} {off : Int} {tgt : Nat} (hd : decode cc pc = .ok (.if_icmp .ge off, 3)) (ht : (pc : Int) + off = (tgt : Int)) (kt : zQP w p l e R s m args below meth c nL f (A) tgt loc stk h) (kf : zQP w p l e R s m args below meth c nL f (B) (pc + 3) loc stk h) : zQP w p l e R s m args below meth c nL f (if y ≤ x then A else B) pc loc (.inl y :: .inl x :: stk) h :=
  fun r z => v_icmp_ge C hd ht (fun q => kt r (by rw [if_pos q] at z; exact z)) (fun q => kf r (by rw [if_neg q] at z; exact z))
theorem p_if_ge (C : zC w p s m args c nL cc own) {A B : Option α} {x : Int} {off : Int} {tgt : Nat} (hd : decode cc pc = .ok (.ifCond .ge off, 3)) (ht : (pc : Int) + off = (tgt : Int)) (kt : zQP w p l e R s m args below meth c nL f (A) tgt loc stk h) (kf : zQP w p l e R s m args below meth c nL f (B) (pc + 3) loc stk h) : zQP w p l e R s m args below meth c nL f (if 0 ≤ x then A else B) pc loc (.inl x :: stk) h :=
  fun r z => v_if_ge C hd ht (fun q => kt r (by rw [if_pos q] at z; exact z)) (fun q => kf r (by rw [if_neg q] at z; exact z))
theorem p_icmp_gt (C : zC w p s m args c nL cc own) {A B : Option α} {x y : Int} {off : Int} {tgt : Nat} (hd : decode cc pc = .ok (.if_icmp .gt off, 3)) (ht : (pc : Int) + off = (tgt : Int)) (kt : zQP w p l e R s m args below meth c nL f (A) tgt loc stk h) (kf : zQP w p l e R s m args below meth c nL f (B) (pc + 3) loc stk h) : zQP w p l e R s m args below meth c nL f (if y < x then A else B) pc loc (.inl y :: .inl x :: stk) h :=
  fun r z => v_icmp_gt C hd ht (fun q => kt r (by rw [if_pos q] at z; exact z)) (fun q => kf r (by rw [if_neg q] at z; exact z))
theorem p_if_gt (C : zC w p s m args c nL cc own) {A B : Option α} {x : Int} {off : Int} {tgt : Nat} (hd : decode cc pc = .ok (.ifCond .gt off, 3)) (ht : (pc : Int) + off = (tgt : Int)) (kt : zQP w p l e R s m args below meth c nL f (A) tgt loc stk h) (kf : zQP w p l e R s m args below meth c nL f (B) (pc + 3) loc stk h) : zQP w p l e R s m args below meth c nL f (if 0 < x then A else B) pc loc (.inl x :: stk) h :=
  fun r z => v_if_gt C hd ht (fun q => kt r (by rw [if_pos q] at z; exact z)) (fun q => kf r (by rw [if_neg q] at z; exact z))
theorem p_icmp_le (C : zC w p s m args c nL cc own) {A B : Option α} {x y : Int} {off : Int} {tgt : Nat} (hd : decode cc pc = .ok (.if_icmp .le off, 3)) (ht : (pc : Int) + off = (tgt : Int)) (kt : zQP w p l e R s m args below meth c nL f (A) tgt loc stk h) (kf : zQP w p l e R s m args below meth c nL f (B) (pc + 3) loc stk h) : zQP w p l e R s m args below meth c nL f (if x ≤ y then A else B) pc loc (.inl y :: .inl x :: stk) h :=
  fun r z => v_icmp_le C hd ht (fun q => kt r (by rw [if_pos q] at z; exact z)) (fun q => kf r (by rw [if_neg q] at z; exact z))
theorem p_if_le (C : zC w p s m args c nL cc own) {A B : Option α} {x : Int} {off : Int} {tgt : Nat} (hd : decode cc pc = .ok (.ifCond .le off, 3)) (ht : (pc : Int) + off = (tgt : Int)) (kt : zQP w p l e R s m args below meth c nL f (A) tgt loc stk h) (kf : zQP w p l e R s m args below meth c nL f (B) (pc + 3) loc stk h) : zQP w p l e R s m args below meth c nL f (if x ≤ 0 then A else B) pc loc (.inl x :: stk) h :=
  fun r z => v_if_le C hd ht (fun q => kt r (by rw [if_pos q] at z; exact z)) (fun q => kf r (by rw [if_neg q] at z; exact z))
theorem p_iret (C : zC w p s m args c nL cc own) {x : Int} (hr : meth.sig.returnType = some .int) (hlk : meth.locks = false) (hd : decode cc pc = .ok (.ireturn, 1)) : zQP (α := Int) w p l e R s m args below meth c nL qI (some x) pc loc [.inl x] h :=
  fun r z => by
    cases z
    exact v_iret C hr hlk hd ⟨rfl, rfl⟩
theorem p_zret (C : zC w p s m args c nL cc own) {x : Int} (hr : meth.sig.returnType = some .boolean) (hlk : meth.locks = false) (hz : x = 0 ∨ x = 1) (hd : decode cc pc = .ok (.ireturn, 1)) : zQP (α := Int) w p l e R s m args below meth c nL qI (some x) pc loc [.inl x] h :=
  fun r z => by
    cases z
    exact v_zret C hr hlk hz hd ⟨rfl, rfl⟩
theorem p_zretg (C : zC w p s m args c nL cc own) {x : Int} (hr : meth.sig.returnType = some .boolean) (hlk : meth.locks = false) (hd : decode cc pc = .ok (.ireturn, 1)) : zQP (α := Int) w p l e R s m args below meth c nL qI (zgb x (some x)) pc loc [.inl x] h :=
  fun r z => by
    obtain ⟨hz, z⟩ := zgb_some z
    cases z
    exact v_zret C hr hlk hz hd ⟨rfl, rfl⟩
theorem p_aret (C : zC w p s m args c nL cc own) {a d : Nat} {Cn : String} (hr : meth.sig.returnType = some (.object Cn)) (hlk : meth.locks = false) (hd : decode cc pc = .ok (.areturn, 1)) : zQP (α := Nat) w p l e R s m args below meth c nL (qR d) (some a) pc loc [.inr (d, a)] h :=
  fun r z => by
    cases z
    exact v_aret C hr hlk hd ⟨rfl, rfl⟩
theorem p_saret (C : zC w p s m args c nL cc own) {a : Nat} {Cn : String} (hr : meth.sig.returnType = some (.object Cn)) (hlk : meth.locks = false) (hd : decode cc pc = .ok (.areturn, 1)) : zQP (α := Nat) w p l e R s m args below meth c nL (qS w) (some a) pc loc [.inr (30, zwS w a)] h :=
  fun r z => by
    cases z
    exact v_aret C hr hlk hd ⟨rfl, rfl⟩
theorem p_vret (C : zC w p s m args c nL cc own) (hr : meth.sig.returnType = none) (hlk : meth.locks = false) (hd : decode cc pc = .ok (.return_, 1)) : zQP (α := Unit) w p l e R s m args below meth c nL qU (some ()) pc loc [] h :=
  fun r z => by
    cases z
    exact v_vret C hr hlk hd ⟨rfl, rfl⟩
theorem p_pcallVI (C : zC w p s m args c nL cc own) {idx ci a n j fr lo : Nat} {y : MethodName} {b : ByteArray} {ret : Option FieldType} {As rest : List zv} {E2 : Option Int} {k : Int → Option (α)} (hd : decode cc pc = .ok (.invokevirtual idx, 3)) (hm : zMV own idx ci y b n ret j)
    (hc : zCp w l y b n ret fr lo (.inr (ci, a) :: As) h qI E2) (hs : stk = As.reverse ++ .inr (ci, a) :: rest) (hR : fr + 1 ≤ R.frames ∧ 8 + (n + 11) + lo ≤ R.locals) (hk8 : As.length = j ∧ rest.length ≤ 8)
    (kk : ∀ v, zQP w p l e R s m args below meth c nL f (k v) (pc + 3) loc (.inl v :: rest) h) : zQP w p l e R s m args below meth c nL f (zbp E2 k) pc loc stk h := by
  intro r z
  match E2, hc, z with
  | some v, hc, z => exact v_callV C hd hm (hc v rfl) hs hR ⟨Nat.zero_le _, Nat.zero_le _⟩ hk8 fun r2 h2 q => by rw [q.1, q.2]; exact kk v r z
theorem p_pcallVR (C : zC w p s m args c nL cc own) {idx ci a n j fr lo : Nat} {d : Nat} {y : MethodName} {b : ByteArray} {ret : Option FieldType} {As rest : List zv} {E2 : Option Nat} {k : Nat → Option (α)} (hd : decode cc pc = .ok (.invokevirtual idx, 3)) (hm : zMV own idx ci y b n ret j)
    (hc : zCp w l y b n ret fr lo (.inr (ci, a) :: As) h (qR d) E2) (hs : stk = As.reverse ++ .inr (ci, a) :: rest) (hR : fr + 1 ≤ R.frames ∧ 8 + (n + 11) + lo ≤ R.locals) (hk8 : As.length = j ∧ rest.length ≤ 8)
    (kk : ∀ v, zQP w p l e R s m args below meth c nL f (k v) (pc + 3) loc (.inr (d, v) :: rest) h) : zQP w p l e R s m args below meth c nL f (zbp E2 k) pc loc stk h := by
  intro r z
  match E2, hc, z with
  | some v, hc, z => exact v_callV C hd hm (hc v rfl) hs hR ⟨Nat.zero_le _, Nat.zero_le _⟩ hk8 fun r2 h2 q => by rw [q.1, q.2]; exact kk v r z
theorem p_pcallVS (C : zC w p s m args c nL cc own) {idx ci a n j fr lo : Nat} {y : MethodName} {b : ByteArray} {ret : Option FieldType} {As rest : List zv} {E2 : Option Nat} {k : Nat → Option (α)} (hd : decode cc pc = .ok (.invokevirtual idx, 3)) (hm : zMV own idx ci y b n ret j)
    (hc : zCp w l y b n ret fr lo (.inr (ci, a) :: As) h (qS w) E2) (hs : stk = As.reverse ++ .inr (ci, a) :: rest) (hR : fr + 1 ≤ R.frames ∧ 8 + (n + 11) + lo ≤ R.locals) (hk8 : As.length = j ∧ rest.length ≤ 8)
    (kk : ∀ v, zQP w p l e R s m args below meth c nL f (k v) (pc + 3) loc (.inr (30, zwS w v) :: rest) h) : zQP w p l e R s m args below meth c nL f (zbp E2 k) pc loc stk h := by
  intro r z
  match E2, hc, z with
  | some v, hc, z => exact v_callV C hd hm (hc v rfl) hs hR ⟨Nat.zero_le _, Nat.zero_le _⟩ hk8 fun r2 h2 q => by rw [q.1, q.2]; exact kk v r z
theorem p_pcallVU (C : zC w p s m args c nL cc own) {idx ci a n j fr lo : Nat} {y : MethodName} {b : ByteArray} {ret : Option FieldType} {As rest : List zv} {E2 : Option Unit} {k : Unit → Option (α)} (hd : decode cc pc = .ok (.invokevirtual idx, 3)) (hm : zMV own idx ci y b n ret j)
    (hc : zCp w l y b n ret fr lo (.inr (ci, a) :: As) h qU E2) (hs : stk = As.reverse ++ .inr (ci, a) :: rest) (hR : fr + 1 ≤ R.frames ∧ 8 + (n + 11) + lo ≤ R.locals) (hk8 : As.length = j ∧ rest.length ≤ 8)
    (kk : ∀ v, zQP w p l e R s m args below meth c nL f (k v) (pc + 3) loc rest h) : zQP w p l e R s m args below meth c nL f (zbp E2 k) pc loc stk h := by
  intro r z
  match E2, hc, z with
  | some v, hc, z => exact v_callV C hd hm (hc v rfl) hs hR ⟨Nat.zero_le _, Nat.zero_le _⟩ hk8 fun r2 h2 q => by rw [q.1, q.2]; exact kk v r z
theorem p_pcallSI (C : zC w p s m args c nL cc own) {idx n j fr lo : Nat} {y : MethodName} {b : ByteArray} {ret : Option FieldType} {As rest : List zv} {E2 : Option Int} {k : Int → Option (α)} (hd : decode cc pc = .ok (.invokestatic idx, 3)) (hm : zMS own idx y b n ret j)
    (hc : zCp w l y b n ret fr lo As h qI E2) (hs : stk = As.reverse ++ rest) (hR : fr + 1 ≤ R.frames ∧ 8 + (n + 11) + lo ≤ R.locals) (hk8 : As.length = j ∧ rest.length ≤ 8)
    (kk : ∀ v, zQP w p l e R s m args below meth c nL f (k v) (pc + 3) loc (.inl v :: rest) h) : zQP w p l e R s m args below meth c nL f (zbp E2 k) pc loc stk h := by
  intro r z
  match E2, hc, z with
  | some v, hc, z => exact v_callS C hd hm (hc v rfl) hs hR ⟨Nat.zero_le _, Nat.zero_le _⟩ hk8 fun r2 h2 q => by rw [q.1, q.2]; exact kk v r z
theorem p_pcallSR (C : zC w p s m args c nL cc own) {idx n j fr lo : Nat} {d : Nat} {y : MethodName} {b : ByteArray} {ret : Option FieldType} {As rest : List zv} {E2 : Option Nat} {k : Nat → Option (α)} (hd : decode cc pc = .ok (.invokestatic idx, 3)) (hm : zMS own idx y b n ret j)
    (hc : zCp w l y b n ret fr lo As h (qR d) E2) (hs : stk = As.reverse ++ rest) (hR : fr + 1 ≤ R.frames ∧ 8 + (n + 11) + lo ≤ R.locals) (hk8 : As.length = j ∧ rest.length ≤ 8)
    (kk : ∀ v, zQP w p l e R s m args below meth c nL f (k v) (pc + 3) loc (.inr (d, v) :: rest) h) : zQP w p l e R s m args below meth c nL f (zbp E2 k) pc loc stk h := by
  intro r z
  match E2, hc, z with
  | some v, hc, z => exact v_callS C hd hm (hc v rfl) hs hR ⟨Nat.zero_le _, Nat.zero_le _⟩ hk8 fun r2 h2 q => by rw [q.1, q.2]; exact kk v r z
theorem p_pcallSS (C : zC w p s m args c nL cc own) {idx n j fr lo : Nat} {y : MethodName} {b : ByteArray} {ret : Option FieldType} {As rest : List zv} {E2 : Option Nat} {k : Nat → Option (α)} (hd : decode cc pc = .ok (.invokestatic idx, 3)) (hm : zMS own idx y b n ret j)
    (hc : zCp w l y b n ret fr lo As h (qS w) E2) (hs : stk = As.reverse ++ rest) (hR : fr + 1 ≤ R.frames ∧ 8 + (n + 11) + lo ≤ R.locals) (hk8 : As.length = j ∧ rest.length ≤ 8)
    (kk : ∀ v, zQP w p l e R s m args below meth c nL f (k v) (pc + 3) loc (.inr (30, zwS w v) :: rest) h) : zQP w p l e R s m args below meth c nL f (zbp E2 k) pc loc stk h := by
  intro r z
  match E2, hc, z with
  | some v, hc, z => exact v_callS C hd hm (hc v rfl) hs hR ⟨Nat.zero_le _, Nat.zero_le _⟩ hk8 fun r2 h2 q => by rw [q.1, q.2]; exact kk v r z
theorem p_pcallSU (C : zC w p s m args c nL cc own) {idx n j fr lo : Nat} {y : MethodName} {b : ByteArray} {ret : Option FieldType} {As rest : List zv} {E2 : Option Unit} {k : Unit → Option (α)} (hd : decode cc pc = .ok (.invokestatic idx, 3)) (hm : zMS own idx y b n ret j)
    (hc : zCp w l y b n ret fr lo As h qU E2) (hs : stk = As.reverse ++ rest) (hR : fr + 1 ≤ R.frames ∧ 8 + (n + 11) + lo ≤ R.locals) (hk8 : As.length = j ∧ rest.length ≤ 8)
    (kk : ∀ v, zQP w p l e R s m args below meth c nL f (k v) (pc + 3) loc rest h) : zQP w p l e R s m args below meth c nL f (zbp E2 k) pc loc stk h := by
  intro r z
  match E2, hc, z with
  | some v, hc, z => exact v_callS C hd hm (hc v rfl) hs hR ⟨Nat.zero_le _, Nat.zero_le _⟩ hk8 fun r2 h2 q => by rw [q.1, q.2]; exact kk v r z
theorem p_pcallNI (C : zC w p s m args c nL cc own) {idx n j fr lo : Nat} {host : String} {y : MethodName} {b : ByteArray} {ret : Option FieldType} {As rest : List zv} {E2 : Option Int} {k : Int → Option (α)} (hd : decode cc pc = .ok (.invokestatic idx, 3)) (hm : zMN own idx y host b n ret j)
    (hc : zCp w l y b n ret fr lo As h qI E2) (hs : stk = As.reverse ++ rest) (hR : fr + 1 ≤ R.frames ∧ 8 + (n + 11) + lo ≤ R.locals) (hk8 : As.length = j ∧ rest.length ≤ 8)
    (kk : ∀ v, zQP w p l e R s m args below meth c nL f (k v) (pc + 3) loc (.inl v :: rest) h) : zQP w p l e R s m args below meth c nL f (zbp E2 k) pc loc stk h := by
  intro r z
  match E2, hc, z with
  | some v, hc, z => exact v_callN C hd hm (hc v rfl) hs hR ⟨Nat.zero_le _, Nat.zero_le _⟩ hk8 fun r2 h2 q => by rw [q.1, q.2]; exact kk v r z
theorem p_pcallNR (C : zC w p s m args c nL cc own) {idx n j fr lo : Nat} {host : String} {d : Nat} {y : MethodName} {b : ByteArray} {ret : Option FieldType} {As rest : List zv} {E2 : Option Nat} {k : Nat → Option (α)} (hd : decode cc pc = .ok (.invokestatic idx, 3)) (hm : zMN own idx y host b n ret j)
    (hc : zCp w l y b n ret fr lo As h (qR d) E2) (hs : stk = As.reverse ++ rest) (hR : fr + 1 ≤ R.frames ∧ 8 + (n + 11) + lo ≤ R.locals) (hk8 : As.length = j ∧ rest.length ≤ 8)
    (kk : ∀ v, zQP w p l e R s m args below meth c nL f (k v) (pc + 3) loc (.inr (d, v) :: rest) h) : zQP w p l e R s m args below meth c nL f (zbp E2 k) pc loc stk h := by
  intro r z
  match E2, hc, z with
  | some v, hc, z => exact v_callN C hd hm (hc v rfl) hs hR ⟨Nat.zero_le _, Nat.zero_le _⟩ hk8 fun r2 h2 q => by rw [q.1, q.2]; exact kk v r z
theorem p_pcallNS (C : zC w p s m args c nL cc own) {idx n j fr lo : Nat} {host : String} {y : MethodName} {b : ByteArray} {ret : Option FieldType} {As rest : List zv} {E2 : Option Nat} {k : Nat → Option (α)} (hd : decode cc pc = .ok (.invokestatic idx, 3)) (hm : zMN own idx y host b n ret j)
    (hc : zCp w l y b n ret fr lo As h (qS w) E2) (hs : stk = As.reverse ++ rest) (hR : fr + 1 ≤ R.frames ∧ 8 + (n + 11) + lo ≤ R.locals) (hk8 : As.length = j ∧ rest.length ≤ 8)
    (kk : ∀ v, zQP w p l e R s m args below meth c nL f (k v) (pc + 3) loc (.inr (30, zwS w v) :: rest) h) : zQP w p l e R s m args below meth c nL f (zbp E2 k) pc loc stk h := by
  intro r z
  match E2, hc, z with
  | some v, hc, z => exact v_callN C hd hm (hc v rfl) hs hR ⟨Nat.zero_le _, Nat.zero_le _⟩ hk8 fun r2 h2 q => by rw [q.1, q.2]; exact kk v r z
theorem p_pcallNU (C : zC w p s m args c nL cc own) {idx n j fr lo : Nat} {host : String} {y : MethodName} {b : ByteArray} {ret : Option FieldType} {As rest : List zv} {E2 : Option Unit} {k : Unit → Option (α)} (hd : decode cc pc = .ok (.invokestatic idx, 3)) (hm : zMN own idx y host b n ret j)
    (hc : zCp w l y b n ret fr lo As h qU E2) (hs : stk = As.reverse ++ rest) (hR : fr + 1 ≤ R.frames ∧ 8 + (n + 11) + lo ≤ R.locals) (hk8 : As.length = j ∧ rest.length ≤ 8)
    (kk : ∀ v, zQP w p l e R s m args below meth c nL f (k v) (pc + 3) loc rest h) : zQP w p l e R s m args below meth c nL f (zbp E2 k) pc loc stk h := by
  intro r z
  match E2, hc, z with
  | some v, hc, z => exact v_callN C hd hm (hc v rfl) hs hR ⟨Nat.zero_le _, Nat.zero_le _⟩ hk8 fun r2 h2 q => by rw [q.1, q.2]; exact kk v r z
theorem p_tsw5 (C : zC w p s m args c nL cc own) {A0 A1 A2 A3 A4 D : Option (α)} {x dflt o0 o1 o2 o3 o4 : Int} {len t0 t1 t2 t3 t4 td : Nat} (hd : decode cc pc = .ok (.tableswitch dflt 0 4 #[o0, o1, o2, o3, o4], len)) (ht : (pc : Int) + o0 = (t0 : Int) ∧ (pc : Int) + o1 = (t1 : Int) ∧ (pc : Int) + o2 = (t2 : Int) ∧ (pc : Int) + o3 = (t3 : Int) ∧ (pc : Int) + o4 = (t4 : Int) ∧ (pc : Int) + dflt = (td : Int)) (k0 : zQP w p l e R s m args below meth c nL f A0 t0 loc stk h) (k1 : zQP w p l e R s m args below meth c nL f A1 t1 loc stk h) (k2 : zQP w p l e R s m args below meth c nL f A2 t2 loc stk h) (k3 : zQP w p l e R s m args below meth c nL f A3 t3 loc stk h) (k4 : zQP w p l e R s m args below meth c nL f A4 t4 loc stk h) (kd : zQP w p l e R s m args below meth c nL f D td loc stk h) : zQP w p l e R s m args below meth c nL f (if x = 0 then A0 else if x = 1 then A1 else if x = 2 then A2 else if x = 3 then A3 else if x = 4 then A4 else D) pc loc (.inl x :: stk) h := by
  intro r z
  obtain ⟨g0, g1, g2, g3, g4, gd⟩ := ht
  by_cases e0 : x = 0
  · rw [if_pos e0] at z
    exact v_tabIn C (k := 0) hd (by omega) (by decide) rfl g0 (k0 r z)
  by_cases e1 : x = 1
  · rw [if_neg e0, if_pos e1] at z
    exact v_tabIn C (k := 1) hd (by omega) (by decide) rfl g1 (k1 r z)
  by_cases e2 : x = 2
  · rw [if_neg e0, if_neg e1, if_pos e2] at z
    exact v_tabIn C (k := 2) hd (by omega) (by decide) rfl g2 (k2 r z)
  by_cases e3 : x = 3
  · rw [if_neg e0, if_neg e1, if_neg e2, if_pos e3] at z
    exact v_tabIn C (k := 3) hd (by omega) (by decide) rfl g3 (k3 r z)
  by_cases e4 : x = 4
  · rw [if_neg e0, if_neg e1, if_neg e2, if_neg e3, if_pos e4] at z
    exact v_tabIn C (k := 4) hd (by omega) (by decide) rfl g4 (k4 r z)
  rw [if_neg e0, if_neg e1, if_neg e2, if_neg e3, if_neg e4] at z
  exact v_tabOut C hd (by omega) gd (kd r z)
theorem p_tsw6 (C : zC w p s m args c nL cc own) {A0 A1 A2 A3 A4 A5 D : Option (α)} {x dflt o0 o1 o2 o3 o4 o5 : Int} {len t0 t1 t2 t3 t4 t5 td : Nat} (hd : decode cc pc = .ok (.tableswitch dflt 0 5 #[o0, o1, o2, o3, o4, o5], len)) (ht : (pc : Int) + o0 = (t0 : Int) ∧ (pc : Int) + o1 = (t1 : Int) ∧ (pc : Int) + o2 = (t2 : Int) ∧ (pc : Int) + o3 = (t3 : Int) ∧ (pc : Int) + o4 = (t4 : Int) ∧ (pc : Int) + o5 = (t5 : Int) ∧ (pc : Int) + dflt = (td : Int)) (k0 : zQP w p l e R s m args below meth c nL f A0 t0 loc stk h) (k1 : zQP w p l e R s m args below meth c nL f A1 t1 loc stk h) (k2 : zQP w p l e R s m args below meth c nL f A2 t2 loc stk h) (k3 : zQP w p l e R s m args below meth c nL f A3 t3 loc stk h) (k4 : zQP w p l e R s m args below meth c nL f A4 t4 loc stk h) (k5 : zQP w p l e R s m args below meth c nL f A5 t5 loc stk h) (kd : zQP w p l e R s m args below meth c nL f D td loc stk h) : zQP w p l e R s m args below meth c nL f (if x = 0 then A0 else if x = 1 then A1 else if x = 2 then A2 else if x = 3 then A3 else if x = 4 then A4 else if x = 5 then A5 else D) pc loc (.inl x :: stk) h := by
  intro r z
  obtain ⟨g0, g1, g2, g3, g4, g5, gd⟩ := ht
  by_cases e0 : x = 0
  · rw [if_pos e0] at z
    exact v_tabIn C (k := 0) hd (by omega) (by decide) rfl g0 (k0 r z)
  by_cases e1 : x = 1
  · rw [if_neg e0, if_pos e1] at z
    exact v_tabIn C (k := 1) hd (by omega) (by decide) rfl g1 (k1 r z)
  by_cases e2 : x = 2
  · rw [if_neg e0, if_neg e1, if_pos e2] at z
    exact v_tabIn C (k := 2) hd (by omega) (by decide) rfl g2 (k2 r z)
  by_cases e3 : x = 3
  · rw [if_neg e0, if_neg e1, if_neg e2, if_pos e3] at z
    exact v_tabIn C (k := 3) hd (by omega) (by decide) rfl g3 (k3 r z)
  by_cases e4 : x = 4
  · rw [if_neg e0, if_neg e1, if_neg e2, if_neg e3, if_pos e4] at z
    exact v_tabIn C (k := 4) hd (by omega) (by decide) rfl g4 (k4 r z)
  by_cases e5 : x = 5
  · rw [if_neg e0, if_neg e1, if_neg e2, if_neg e3, if_neg e4, if_pos e5] at z
    exact v_tabIn C (k := 5) hd (by omega) (by decide) rfl g5 (k5 r z)
  rw [if_neg e0, if_neg e1, if_neg e2, if_neg e3, if_neg e4, if_neg e5] at z
  exact v_tabOut C hd (by omega) gd (kd r z)
theorem p_gst0 (C : zC w p s m args c nL cc own) {idx i : Nat} (hd : decode cc pc = .ok (.getstatic idx, 3)) (hi : i < 3) (hm : Cond.fieldLink own idx RX7 (zsN i) "[I" ∈ zw_T)
    (kk : zQP w p l e R s m args below meth c nL f E (pc + 3) loc (.inr (30, zwS w (20 + i)) :: stk) h) : zQP w p l e R s m args below meth c nL f E pc loc stk h :=
  fun r z => v_gst0 C hd hi hm (kk r z)
theorem p_gst1 (C : zC w p s m args c nL cc own) {idx i : Nat} (hd : decode cc pc = .ok (.getstatic idx, 3)) (hi : i < 3) (hm : (own, idx, RX7, zsN i, "[I", RX7) ∈ zw_NF)
    (kk : zQP w p l e R s m args below meth c nL f E (pc + 3) loc (.inr (30, zwS w (20 + i)) :: stk) h) : zQP w p l e R s m args below meth c nL f E pc loc stk h :=
  fun r z => v_gst1 C hd hi hm (kk r z)
theorem p_sald (C : zC w p s m args c nL cc own) {i : Nat} {x : Int} (hd : decode cc pc = .ok (.iaload, 1)) (hi : i < 3)
    (kk : zQP w p l e R s m args below meth c nL f E (pc + 1) loc (.inl (zsV i x.toNat) :: stk) h) : zQP w p l e R s m args below meth c nL f (zgi 7 x E) pc loc (.inl x :: .inr (30, zwS w (20 + i)) :: stk) h :=
  fun r z => v_sald C hd hi (zgi_some z).1.1 (zgi_some z).1.2 (kk r (zgi_some z).2)
theorem p_ldcS (C : zC w p s m args c nL cc own) {idx i : Nat} {tx : String} (hd : decode cc pc = .ok (.ldc idx, 2)) (hm : (own, idx, i, tx) ∈ zw_SR) (hi : i < 16)
    (kk : zQP w p l e R s m args below meth c nL f E (pc + 2) loc (.inr (30, zwS w i) :: stk) h) : zQP w p l e R s m args below meth c nL f E pc loc stk h :=
  fun r z => v_ldcS C hd hm hi (kk r z)
end QP
