/-! The rows for goals that carry the method's answer and the pool behind it as a term (none: nothing is claimed). -/
def zQV {α : Type} (w : zW) (p : Program) (l : Launch) (e : Env) (R : Room) (s : State) (m : MethodId) (args : Array Value) (below : List Frame) (meth : Method) (c : Code) (nL : Nat) (f : α → Option zv) (E : Option (α × zH)) (pc : Nat) (loc : List (Option zv)) (stk : List zv) (h : zH) : Prop :=
  ∀ r h', E = some (r, h') → zV w p l e R s m args below meth c nL 0 0 (MQ below (zQ w (zFn (f r) h')) args s 0 0 (zA w)) pc loc stk h
def zCq {α : Type} (w : zW) (l : Launch) (y : MethodName) (b : ByteArray) (n : Nat) (ret : Option FieldType) (fr lo : Nat) (av : List zv) (h : zH) (f : α → Option zv) (E : Option (α × zH)) : Prop :=
  ∀ r h', E = some (r, h') → zCt w l y b n ret fr lo av h (zFn (f r) h')
def zlet {β γ : Type} (v : β) (k : β → γ) : γ := k v
def zgi {γ : Type} (n : Nat) (i : Int) (E : Option γ) : Option γ := if 0 ≤ i ∧ i < (n : Int) then E else none
def zgz {γ : Type} (y : Int) (E : Option γ) : Option γ := if y = 0 then none else E
def zgb {γ : Type} (x : Int) (E : Option γ) : Option γ := if x = 0 ∨ x = 1 then E else none
def zbd {α γ : Type} (E : Option (α × zH)) (k : α → zH → Option γ) : Option γ := match E with | none => none | some q => k q.1 q.2
def qI : Int → Option zv := fun x => some (.inl x)
def qU : Unit → Option zv := fun _ => none
def qR (k : Nat) : Nat → Option zv := fun a => some (.inr (k, a))
def qS (w : zW) : Nat → Option zv := fun i => some (.inr (30, zwS w i))
/-- fuel for every loop -/
def zF : Nat := 1000000000
theorem zgi_pos {γ : Type} {n : Nat} {i : Int} {E : Option γ} (h0 : 0 ≤ i) (h1 : i < (n : Int)) : zgi n i E = E := by unfold zgi; rw [if_pos ⟨h0, h1⟩]
theorem zgz_pos {γ : Type} {y : Int} {E : Option γ} (h0 : ¬ y = 0) : zgz y E = E := by unfold zgz; rw [if_neg h0]
theorem zgb_pos {γ : Type} {x : Int} {E : Option γ} (h0 : x = 0 ∨ x = 1) : zgb x E = E := by unfold zgb; rw [if_pos h0]
theorem zbd_some {α γ : Type} {a : α} {h : zH} {k : α → zH → Option γ} : zbd (some (a, h)) k = k a h := rfl
theorem zgi_some {γ : Type} {n : Nat} {i : Int} {E : Option γ} {r : γ} (h : zgi n i E = some r) : (0 ≤ i ∧ i < (n : Int)) ∧ E = some r := by
  unfold zgi at h
  by_cases hq : 0 ≤ i ∧ i < (n : Int)
  · rw [if_pos hq] at h; exact ⟨hq, h⟩
  · rw [if_neg hq] at h; cases h
theorem zgz_some {γ : Type} {y : Int} {E : Option γ} {r : γ} (h : zgz y E = some r) : ¬ y = 0 ∧ E = some r := by
  unfold zgz at h
  by_cases hq : y = 0
  · rw [if_pos hq] at h; cases h
  · rw [if_neg hq] at h; exact ⟨hq, h⟩
theorem zgb_some {γ : Type} {x : Int} {E : Option γ} {r : γ} (h : zgb x E = some r) : (x = 0 ∨ x = 1) ∧ E = some r := by
  unfold zgb at h
  by_cases hq : x = 0 ∨ x = 1
  · rw [if_pos hq] at h; exact ⟨hq, h⟩
  · rw [if_neg hq] at h; cases h
theorem zCq.of {α : Type} {w : zW} {l : Launch} {y : MethodName} {b : ByteArray} {n : Nat} {ret : Option FieldType} {fr lo : Nat} {av : List zv} {h : zH} {f : α → Option zv} {E : Option (α × zH)} {own : String} {loc : List (Option zv)}
    (hy : plainName y.cls = true) (ho : y.cls = own) (hn : av.length ≤ n) (hloc : ∀ (k : Nat) (v : zv), loc[k]? = some (some v) → av[k]? = some v)
    (body : ∀ p e s m args below meth c, zC w p s m args c n b own → meth.sig.returnType = ret → meth.locks = false → zQV w p l e (zRm fr lo) s m args below meth c n f E 0 loc [] h) : zCq w l y b n ret fr lo av h f E :=
  fun r h' z => zCt.of hy ho hn hloc fun p e s m args below meth c C Z1 Z2 _ => body p e s m args below meth c C Z1 Z2 r h' z
def zQP {α : Type} (w : zW) (p : Program) (l : Launch) (e : Env) (R : Room) (s : State) (m : MethodId) (args : Array Value) (below : List Frame) (meth : Method) (c : Code) (nL : Nat) (f : α → Option zv) (E : Option α) (pc : Nat) (loc : List (Option zv)) (stk : List zv) (h : zH) : Prop :=
  ∀ r, E = some r → zV w p l e R s m args below meth c nL 0 0 (MQ below (zQ w (zFn (f r) h)) args s 0 0 (zA w)) pc loc stk h
def zCp {α : Type} (w : zW) (l : Launch) (y : MethodName) (b : ByteArray) (n : Nat) (ret : Option FieldType) (fr lo : Nat) (av : List zv) (h : zH) (f : α → Option zv) (E : Option α) : Prop :=
  ∀ r, E = some r → zCt w l y b n ret fr lo av h (zFn (f r) h)
def zbp {α γ : Type} (E : Option α) (k : α → Option γ) : Option γ := match E with | none => none | some q => k q
theorem zbp_some {α γ : Type} {a : α} {k : α → Option γ} : zbp (some a) k = k a := rfl
theorem zCp.of {α : Type} {w : zW} {l : Launch} {y : MethodName} {b : ByteArray} {n : Nat} {ret : Option FieldType} {fr lo : Nat} {av : List zv} {h : zH} {f : α → Option zv} {E : Option α} {own : String} {loc : List (Option zv)}
    (hy : plainName y.cls = true) (ho : y.cls = own) (hn : av.length ≤ n) (hloc : ∀ (k : Nat) (v : zv), loc[k]? = some (some v) → av[k]? = some v)
    (body : ∀ p e s m args below meth c, zC w p s m args c n b own → meth.sig.returnType = ret → meth.locks = false → zQP w p l e (zRm fr lo) s m args below meth c n f E 0 loc [] h) : zCp w l y b n ret fr lo av h f E :=
  fun r z => zCt.of hy ho hn hloc fun p e s m args below meth c C Z1 Z2 _ => body p e s m args below meth c C Z1 Z2 r z
section VM
variable {w : zW} {p : Program} {l : Launch} {e : Env} {R : Room} {s : State} {m : MethodId} {args : Array Value} {below : List Frame} {meth : Method} {c : Code} {nL cells slots : Nat} {Q : State → Prop}
variable {cc : ByteArray} {own : String} {pc : Nat} {loc : List (Option zv)} {stk : List zv} {h : zH}
theorem v_tabIn (C : zC w p s m args c nL cc own) {x dflt hi off : Int} {offs : Array Int} {len tgt k : Nat} (hd : decode cc pc = .ok (.tableswitch dflt 0 hi offs, len)) (hx : x = (k : Int)) (h2 : (k : Int) ≤ hi) (ho : offs[k]? = some off) (ht : (pc : Int) + off = (tgt : Int))
    (kk : zV w p l e R s m args below meth c nL cells slots Q tgt loc stk h) : zV w p l e R s m args below meth c nL cells slots Q pc loc (.inl x :: stk) h := by
  intro H locs ls hR hS hl hk ho2
  obtain ⟨hx', hb, hml, hown, hts, hK⟩ := C
  have hxr : zR x := zok_hd hk
  refine lv_tableIn (x := zi x) (off := off) hx' hb hd (by rw [zi_toInt hxr]; omega) (by rw [zi_toInt hxr]; omega) ?_ ht (kk H locs ls hR hS hl (zok_tl hk) ho2)
  rw [zi_toInt hxr, hx, Int.sub_zero, Int.toNat_natCast]
  exact ho
theorem v_tabOut (C : zC w p s m args c nL cc own) {x dflt hi : Int} {offs : Array Int} {len tgt : Nat} (hd : decode cc pc = .ok (.tableswitch dflt 0 hi offs, len)) (hx : x < 0 ∨ hi < x) (ht : (pc : Int) + dflt = (tgt : Int))
    (kk : zV w p l e R s m args below meth c nL cells slots Q tgt loc stk h) : zV w p l e R s m args below meth c nL cells slots Q pc loc (.inl x :: stk) h := by
  intro H locs ls hR hS hl hk ho2
  obtain ⟨hx', hb, hml, hown, hts, hK⟩ := C
  have hxr : zR x := zok_hd hk
  exact lv_tableOut (x := zi x) hx' hb hd (by rw [zi_toInt hxr]; exact hx) ht (kk H locs ls hR hS hl (zok_tl hk) ho2)
/-- a static row of the class -/
theorem v_gst0 (C : zC w p s m args c nL cc own) {idx i : Nat} (hd : decode cc pc = .ok (.getstatic idx, 3)) (hi : i < 3) (hm : Cond.fieldLink own idx RX7 (zsN i) "[I" ∈ zw_T)
    (kk : zV w p l e R s m args below meth c nL cells slots Q (pc + 3) loc (.inr (30, zwS w (20 + i)) :: stk) h) : zV w p l e R s m args below meth c nL cells slots Q pc loc stk h := by
  intro H locs ls hR hS hl hk ho
  obtain ⟨hx, hb, hml, hown, hts, hK⟩ := C
  obtain ⟨k1, k2, k3⟩ := hK.2.2.1.1 i hi
  exact va_gets hx hb k2 hS hown (hts _ hm) (fun _ h9 => h9) hd (kk H locs ls hR hS hl (zok_cons (v := .inr (30, zwS w (20 + i))) (k1) hk) ho)
theorem v_gst1 (C : zC w p s m args c nL cc own) {idx i : Nat} (hd : decode cc pc = .ok (.getstatic idx, 3)) (hi : i < 3) (hm : (own, idx, RX7, zsN i, "[I", RX7) ∈ zw_NF)
    (kk : zV w p l e R s m args below meth c nL cells slots Q (pc + 3) loc (.inr (30, zwS w (20 + i)) :: stk) h) : zV w p l e R s m args below meth c nL cells slots Q pc loc stk h := by
  intro H locs ls hR hS hl hk ho
  obtain ⟨hx, hb, hml, hown, hts, hK⟩ := C
  obtain ⟨k1, k2, k3⟩ := hK.2.2.1.1 i hi
  exact va_getsN hx hb k2 hS hown (va_Nw.use rfl (hK.2.1.2.1 _ hm)) (fun _ h9 => h9) hd (kk H locs ls hR hS hl (zok_cons (v := .inr (30, zwS w (20 + i))) (k1) hk) ho)
theorem zsV_R : ∀ i, i < 3 → ∀ j, j < 7 → -2147483648 ≤ zsV i j ∧ zsV i j < 2147483648 := by decide
theorem v_sald (C : zC w p s m args c nL cc own) {i : Nat} {x : Int} (hd : decode cc pc = .ok (.iaload, 1)) (hi : i < 3) (h0 : 0 ≤ x) (h1 : x < ((7 : Nat) : Int))
    (kk : zV w p l e R s m args below meth c nL cells slots Q (pc + 1) loc (.inl (zsV i x.toNat) :: stk) h) : zV w p l e R s m args below meth c nL cells slots Q pc loc (.inl x :: .inr (30, zwS w (20 + i)) :: stk) h := by
  intro H locs ls hR hS hl hk ho
  obtain ⟨hx, hb, hml, hown, hts, hK⟩ := C
  have hxr : zR x := zok_hd hk
  obtain ⟨k1, k2, k3⟩ := hK.2.2.1.1 i hi
  have hz : zR (zsV i x.toNat) := zsV_R i hi x.toNat (by omega)
  exact va_ti hx hb k3 hS (zi_in hxr h0 h1) (by rw [zi_nat hxr]; rfl) hd (kk H locs ls hR hS hl (zok_cons (v := .inl (zsV i x.toNat)) hz (zok_tl (zok_tl hk))) ho)
theorem v_ldcS (C : zC w p s m args c nL cc own) {idx i : Nat} {tx : String} (hd : decode cc pc = .ok (.ldc idx, 2)) (hm : (own, idx, i, tx) ∈ zw_SR) (hi : i < 16)
    (kk : zV w p l e R s m args below meth c nL cells slots Q (pc + 2) loc (.inr (30, zwS w i) :: stk) h) : zV w p l e R s m args below meth c nL cells slots Q pc loc stk h := by
  intro H locs ls hR hS hl hk ho
  obtain ⟨hx, hb, hml, hown, hts, hK⟩ := C
  exact va_ldcS hx hb hown (hK.2.1.2.2.1 _ hm) hd (kk H locs ls hR hS hl (zok_cons (v := .inr (30, zwS w i)) ((hK.2.2.1.2.2.2.1 i hi).1) hk) ho)
end VM
section QV
variable {α : Type} {w : zW} {p : Program} {l : Launch} {e : Env} {R : Room} {s : State} {m : MethodId} {args : Array Value} {below : List Frame} {meth : Method} {c : Code} {nL : Nat} {f : α → Option zv} {E : Option (α × zH)}
variable {cc : ByteArray} {own : String} {pc : Nat} {loc : List (Option zv)} {stk : List zv} {h : zH}
theorem q_none : zQV w p l e R s m args below meth c nL f none pc loc stk h := fun _ _ z => by cases z

theorem q_iconst (C : zC w p s m args c nL cc own) {n : Int} (hd : decode cc pc = .ok (.iconst n, 1)) (hn : (decide (-2147483648 ≤ n) && decide (n < 2147483648)) = true) (kk : zQV w p l e R s m args below meth c nL f E (pc + 1) loc (.inl n :: stk) h) : zQV w p l e R s m args below meth c nL f E pc loc (stk) h :=
  fun r h' z => v_iconst C hd hn (kk r h' z)
theorem q_bipush (C : zC w p s m args c nL cc own) {n : Int} (hd : decode cc pc = .ok (.bipush n, 2)) (hv : (Int8.ofInt n).toInt32 = zi n) (hn : (decide (-2147483648 ≤ n) && decide (n < 2147483648)) = true) (kk : zQV w p l e R s m args below meth c nL f E (pc + 2) loc (.inl n :: stk) h) : zQV w p l e R s m args below meth c nL f E pc loc (stk) h :=
  fun r h' z => v_bipush C hd hv hn (kk r h' z)
theorem q_sipush (C : zC w p s m args c nL cc own) {n : Int} (hd : decode cc pc = .ok (.sipush n, 3)) (hv : (Int16.ofInt n).toInt32 = zi n) (hn : (decide (-2147483648 ≤ n) && decide (n < 2147483648)) = true) (kk : zQV w p l e R s m args below meth c nL f E (pc + 3) loc (.inl n :: stk) h) : zQV w p l e R s m args below meth c nL f E pc loc (stk) h :=
  fun r h' z => v_sipush C hd hv hn (kk r h' z)
theorem q_ldc (C : zC w p s m args c nL cc own) {n : Int} {idx : Nat} (hd : decode cc pc = .ok (.ldc idx, 2)) (hm : Cond.constant own idx (zi n) ∈ zw_T) (hn : (decide (-2147483648 ≤ n) && decide (n < 2147483648)) = true) (kk : zQV w p l e R s m args below meth c nL f E (pc + 2) loc (.inl n :: stk) h) : zQV w p l e R s m args below meth c nL f E pc loc (stk) h :=
  fun r h' z => v_ldc C hd hm hn (kk r h' z)
theorem q_ldcw (C : zC w p s m args c nL cc own) {n : Int} {idx : Nat} (hd : decode cc pc = .ok (.ldc_w idx, 3)) (hm : Cond.constant own idx (zi n) ∈ zw_T) (hn : (decide (-2147483648 ≤ n) && decide (n < 2147483648)) = true) (kk : zQV w p l e R s m args below meth c nL f E (pc + 3) loc (.inl n :: stk) h) : zQV w p l e R s m args below meth c nL f E pc loc (stk) h :=
  fun r h' z => v_ldcw C hd hm hn (kk r h' z)
theorem q_iload_n (C : zC w p s m args c nL cc own) {k : Fin 4} {x : Int} (hd : decode cc pc = .ok (.iload_n k, 1)) (hi : loc[(k : Nat)]? = some (some (.inl x))) (kk : zQV w p l e R s m args below meth c nL f E (pc + 1) loc (.inl x :: stk) h) : zQV w p l e R s m args below meth c nL f E pc loc (stk) h :=
  fun r h' z => v_iload_n C hd hi (kk r h' z)
theorem q_iload (C : zC w p s m args c nL cc own) {i : Nat} {x : Int} (hd : decode cc pc = .ok (.iload i, 2)) (hi : loc[i]? = some (some (.inl x))) (kk : zQV w p l e R s m args below meth c nL f E (pc + 2) loc (.inl x :: stk) h) : zQV w p l e R s m args below meth c nL f E pc loc (stk) h :=
  fun r h' z => v_iload C hd hi (kk r h' z)
theorem q_aload_n (C : zC w p s m args c nL cc own) {k : Fin 4} {q : Nat × Nat} (hd : decode cc pc = .ok (.aload_n k, 1)) (hi : loc[(k : Nat)]? = some (some (.inr q))) (kk : zQV w p l e R s m args below meth c nL f E (pc + 1) loc (.inr q :: stk) h) : zQV w p l e R s m args below meth c nL f E pc loc (stk) h :=
  fun r h' z => v_aload_n C hd hi (kk r h' z)
theorem q_aload (C : zC w p s m args c nL cc own) {i : Nat} {q : Nat × Nat} (hd : decode cc pc = .ok (.aload i, 2)) (hi : loc[i]? = some (some (.inr q))) (kk : zQV w p l e R s m args below meth c nL f E (pc + 2) loc (.inr q :: stk) h) : zQV w p l e R s m args below meth c nL f E pc loc (stk) h :=
  fun r h' z => v_aload C hd hi (kk r h' z)
theorem q_istore_n (C : zC w p s m args c nL cc own) {k : Fin 4} {x : Int} (hd : decode cc pc = .ok (.istore_n k, 1)) (hn : (k : Nat) < nL) (kk : zQV w p l e R s m args below meth c nL f E (pc + 1) (loc.set (k : Nat) (some (.inl x))) (stk) h) : zQV w p l e R s m args below meth c nL f E pc loc (.inl x :: stk) h :=
  fun r h' z => v_istore_n C hd hn (kk r h' z)
theorem q_istore (C : zC w p s m args c nL cc own) {i : Nat} {x : Int} (hd : decode cc pc = .ok (.istore i, 2)) (hn : i < nL) (kk : zQV w p l e R s m args below meth c nL f E (pc + 2) (loc.set i (some (.inl x))) (stk) h) : zQV w p l e R s m args below meth c nL f E pc loc (.inl x :: stk) h :=
  fun r h' z => v_istore C hd hn (kk r h' z)
theorem q_astore_n (C : zC w p s m args c nL cc own) {k : Fin 4} {x : Nat × Nat} (hd : decode cc pc = .ok (.astore_n k, 1)) (hn : (k : Nat) < nL) (kk : zQV w p l e R s m args below meth c nL f E (pc + 1) (loc.set (k : Nat) (some (.inr x))) (stk) h) : zQV w p l e R s m args below meth c nL f E pc loc (.inr x :: stk) h :=
  fun r h' z => v_astore_n C hd hn (kk r h' z)
theorem q_astore (C : zC w p s m args c nL cc own) {i : Nat} {x : Nat × Nat} (hd : decode cc pc = .ok (.astore i, 2)) (hn : i < nL) (kk : zQV w p l e R s m args below meth c nL f E (pc + 2) (loc.set i (some (.inr x))) (stk) h) : zQV w p l e R s m args below meth c nL f E pc loc (.inr x :: stk) h :=
  fun r h' z => v_astore C hd hn (kk r h' z)
theorem q_iinc (C : zC w p s m args c nL cc own) {i : Nat} {n x : Int} (hd : decode cc pc = .ok (.iinc i n, 3)) (hi : loc[i]? = some (some (.inl x))) (hn : i < nL) (kk : zQV w p l e R s m args below meth c nL f E (pc + 3) (loc.set i (some (.inl (zw (x + n))))) (stk) h) : zQV w p l e R s m args below meth c nL f E pc loc (stk) h :=
  fun r h' z => v_iinc C hd hi hn (kk r h' z)
theorem q_iadd (C : zC w p s m args c nL cc own) {x y : Int} (hd : decode cc pc = .ok (.iadd, 1)) (kk : zQV w p l e R s m args below meth c nL f E (pc + 1) loc (.inl (zw (x + y)) :: stk) h) : zQV w p l e R s m args below meth c nL f E pc loc (.inl y :: .inl x :: stk) h :=
  fun r h' z => v_iadd C hd (kk r h' z)
theorem q_isub (C : zC w p s m args c nL cc own) {x y : Int} (hd : decode cc pc = .ok (.isub, 1)) (kk : zQV w p l e R s m args below meth c nL f E (pc + 1) loc (.inl (zw (x - y)) :: stk) h) : zQV w p l e R s m args below meth c nL f E pc loc (.inl y :: .inl x :: stk) h :=
  fun r h' z => v_isub C hd (kk r h' z)
theorem q_imul (C : zC w p s m args c nL cc own) {x y : Int} (hd : decode cc pc = .ok (.imul, 1)) (kk : zQV w p l e R s m args below meth c nL f E (pc + 1) loc (.inl (zw (x * y)) :: stk) h) : zQV w p l e R s m args below meth c nL f E pc loc (.inl y :: .inl x :: stk) h :=
  fun r h' z => v_imul C hd (kk r h' z)
theorem q_iand (C : zC w p s m args c nL cc own) {x y : Int} (hd : decode cc pc = .ok (.iand, 1)) (kk : zQV w p l e R s m args below meth c nL f E (pc + 1) loc (.inl (zand x y) :: stk) h) : zQV w p l e R s m args below meth c nL f E pc loc (.inl y :: .inl x :: stk) h :=
  fun r h' z => v_iand C hd (kk r h' z)
theorem q_ior (C : zC w p s m args c nL cc own) {x y : Int} (hd : decode cc pc = .ok (.ior, 1)) (kk : zQV w p l e R s m args below meth c nL f E (pc + 1) loc (.inl (zor x y) :: stk) h) : zQV w p l e R s m args below meth c nL f E pc loc (.inl y :: .inl x :: stk) h :=
  fun r h' z => v_ior C hd (kk r h' z)
theorem q_ixor (C : zC w p s m args c nL cc own) {x y : Int} (hd : decode cc pc = .ok (.ixor, 1)) (kk : zQV w p l e R s m args below meth c nL f E (pc + 1) loc (.inl (zxor x y) :: stk) h) : zQV w p l e R s m args below meth c nL f E pc loc (.inl y :: .inl x :: stk) h :=
  fun r h' z => v_ixor C hd (kk r h' z)
theorem q_ishl (C : zC w p s m args c nL cc own) {x y : Int} (hd : decode cc pc = .ok (.ishl, 1)) (kk : zQV w p l e R s m args below meth c nL f E (pc + 1) loc (.inl (zshl x y) :: stk) h) : zQV w p l e R s m args below meth c nL f E pc loc (.inl y :: .inl x :: stk) h :=
  fun r h' z => v_ishl C hd (kk r h' z)
theorem q_ishr (C : zC w p s m args c nL cc own) {x y : Int} (hd : decode cc pc = .ok (.ishr, 1)) (kk : zQV w p l e R s m args below meth c nL f E (pc + 1) loc (.inl (zshr x y) :: stk) h) : zQV w p l e R s m args below meth c nL f E pc loc (.inl y :: .inl x :: stk) h :=
  fun r h' z => v_ishr C hd (kk r h' z)
theorem q_iushr (C : zC w p s m args c nL cc own) {x y : Int} (hd : decode cc pc = .ok (.iushr, 1)) (kk : zQV w p l e R s m args below meth c nL f E (pc + 1) loc (.inl (zushr x y) :: stk) h) : zQV w p l e R s m args below meth c nL f E pc loc (.inl y :: .inl x :: stk) h :=
  fun r h' z => v_iushr C hd (kk r h' z)
theorem q_ineg (C : zC w p s m args c nL cc own) {x : Int} (hd : decode cc pc = .ok (.ineg, 1)) (kk : zQV w p l e R s m args below meth c nL f E (pc + 1) loc (.inl (zw (-x)) :: stk) h) : zQV w p l e R s m args below meth c nL f E pc loc (.inl x :: stk) h :=
  fun r h' z => v_ineg C hd (kk r h' z)
theorem q_i2b (C : zC w p s m args c nL cc own) {x : Int} (hd : decode cc pc = .ok (.i2b, 1)) (kk : zQV w p l e R s m args below meth c nL f E (pc + 1) loc (.inl (zi2b x) :: stk) h) : zQV w p l e R s m args below meth c nL f E pc loc (.inl x :: stk) h :=
  fun r h' z => v_i2b C hd (kk r h' z)
theorem q_dup (C : zC w p s m args c nL cc own) {v : zv} (hd : decode cc pc = .ok (.dup, 1)) (kk : zQV w p l e R s m args below meth c nL f E (pc + 1) loc (v :: v :: stk) h) : zQV w p l e R s m args below meth c nL f E pc loc (v :: stk) h :=
  fun r h' z => v_dup C hd (kk r h' z)
theorem q_dup2 (C : zC w p s m args c nL cc own) {v u : zv} (hd : decode cc pc = .ok (.dup2, 1)) (kk : zQV w p l e R s m args below meth c nL f E (pc + 1) loc (v :: u :: v :: u :: stk) h) : zQV w p l e R s m args below meth c nL f E pc loc (v :: u :: stk) h :=
  fun r h' z => v_dup2 C hd (kk r h' z)
theorem q_pop (C : zC w p s m args c nL cc own) {v : zv} (hd : decode cc pc = .ok (.pop, 1)) (kk : zQV w p l e R s m args below meth c nL f E (pc + 1) loc (stk) h) : zQV w p l e R s m args below meth c nL f E pc loc (v :: stk) h :=
  fun r h' z => v_pop C hd (kk r h' z)
theorem q_goto (C : zC w p s m args c nL cc own) {off : Int} {tgt : Nat} (hd : decode cc pc = .ok (.goto off, 3)) (ht : (pc : Int) + off = (tgt : Int)) (kk : zQV w p l e R s m args below meth c nL f E tgt loc (stk) h) : zQV w p l e R s m args below meth c nL f E pc loc (stk) h :=
  fun r h' z => v_goto C hd ht (kk r h' z)
theorem q_getI (C : zC w p s m args c nL cc own) {idx ci j a : Nat} (hd : decode cc pc = .ok (.getfield idx, 3)) (hf : zFld own idx ci j) (ht : zft ci j = 0) (kk : zQV w p l e R s m args below meth c nL f E (pc + 3) loc (.inl (h.1 a j) :: stk) h) : zQV w p l e R s m args below meth c nL f E pc loc (.inr (ci, a) :: stk) h :=
  fun r h' z => v_getI C hd hf ht (kk r h' z)
theorem q_getR (C : zC w p s m args c nL cc own) {idx ci j a k : Nat} (hd : decode cc pc = .ok (.getfield idx, 3)) (hf : zFld own idx ci j) (ht : zft ci j = k + 1) (kk : zQV w p l e R s m args below meth c nL f E (pc + 3) loc (.inr (k, h.2 a j) :: stk) h) : zQV w p l e R s m args below meth c nL f E pc loc (.inr (ci, a) :: stk) h :=
  fun r h' z => v_getR C hd hf ht (kk r h' z)
theorem q_mmin (C : zC w p s m args c nL cc own) {idx : Nat} {x y : Int} (hd : decode cc pc = .ok (.invokestatic idx, 3)) (hm : Cond.methodLink own idx Lib.Math.min.name ∈ zw_T) (hR : 1 ≤ R.frames ∧ stk.length + 13 ≤ R.locals) (kk : zQV w p l e R s m args below meth c nL f E (pc + 3) loc (.inl (zmin x y) :: stk) h) : zQV w p l e R s m args below meth c nL f E pc loc (.inl y :: .inl x :: stk) h :=
  fun r h' z => v_mmin C hd hm hR ⟨Nat.zero_le _, Nat.zero_le _⟩ (kk r h' z)
theorem q_mmax (C : zC w p s m args c nL cc own) {idx : Nat} {x y : Int} (hd : decode cc pc = .ok (.invokestatic idx, 3)) (hm : Cond.methodLink own idx Lib.Math.max.name ∈ zw_T) (hR : 1 ≤ R.frames ∧ stk.length + 13 ≤ R.locals) (kk : zQV w p l e R s m args below meth c nL f E (pc + 3) loc (.inl (zmax x y) :: stk) h) : zQV w p l e R s m args below meth c nL f E pc loc (.inl y :: .inl x :: stk) h :=
  fun r h' z => v_mmax C hd hm hR ⟨Nat.zero_le _, Nat.zero_le _⟩ (kk r h' z)
theorem q_mabs (C : zC w p s m args c nL cc own) {idx : Nat} {x : Int} (hd : decode cc pc = .ok (.invokestatic idx, 3)) (hm : Cond.methodLink own idx Lib.Math.abs.name ∈ zw_T) (hR : 1 ≤ R.frames ∧ stk.length + 13 ≤ R.locals) (kk : zQV w p l e R s m args below meth c nL f E (pc + 3) loc (.inl (zabs x) :: stk) h) : zQV w p l e R s m args below meth c nL f E pc loc (.inl x :: stk) h :=
  fun r h' z => v_mabs C hd hm hR ⟨Nat.zero_le _, Nat.zero_le _⟩ (kk r h' z)
theorem q_ialdN (C : zC w p s m args c nL cc own) {k a n j : Nat} {i : Int} (hd : decode cc pc = .ok (.iaload, 1)) (hA : zIA k n .int) (hj : i = (j : Int)) (h1 : j < n) (kk : zQV w p l e R s m args below meth c nL f E (pc + 1) loc (.inl (h.1 a j) :: stk) h) : zQV w p l e R s m args below meth c nL f E pc loc (.inl i :: .inr (k, a) :: stk) h :=
  fun r h' z => v_ialdN C hd hA hj h1 (kk r h' z)
theorem q_baldN (C : zC w p s m args c nL cc own) {k a n j : Nat} {i : Int} (hd : decode cc pc = .ok (.baload, 1)) (hA : zIA k n .byte) (hj : i = (j : Int)) (h1 : j < n) (kk : zQV w p l e R s m args below meth c nL f E (pc + 1) loc (.inl (h.1 a j) :: stk) h) : zQV w p l e R s m args below meth c nL f E pc loc (.inl i :: .inr (k, a) :: stk) h :=
  fun r h' z => v_baldN C hd hA hj h1 (kk r h' z)
theorem q_aaldN (C : zC w p s m args c nL cc own) {k a n k' j : Nat} {i : Int} (hd : decode cc pc = .ok (.aaload, 1)) (hA : zRA k n k') (hj : i = (j : Int)) (h1 : j < n) (kk : zQV w p l e R s m args below meth c nL f E (pc + 1) loc (.inr (k', h.2 a j) :: stk) h) : zQV w p l e R s m args below meth c nL f E pc loc (.inl i :: .inr (k, a) :: stk) h :=
  fun r h' z => v_aaldN C hd hA hj h1 (kk r h' z)
theorem q_istore_nL (C : zC w p s m args c nL cc own) {k : Int → Option (α × zH)} {i : Fin 4} {x : Int} (hd : decode cc pc = .ok (.istore_n i, 1)) (hn : (i : Nat) < nL) (kk : ∀ x, zQV w p l e R s m args below meth c nL f (k x) (pc + 1) (loc.set (i : Nat) (some (.inl x))) stk h) : zQV w p l e R s m args below meth c nL f (zlet x k) pc loc (.inl x :: stk) h :=
  fun r h' z => v_istore_n C hd hn (kk x r h' z)
theorem q_istoreL (C : zC w p s m args c nL cc own) {k : Int → Option (α × zH)} {i : Nat} {x : Int} (hd : decode cc pc = .ok (.istore i, 2)) (hn : i < nL) (kk : ∀ x, zQV w p l e R s m args below meth c nL f (k x) (pc + 2) (loc.set i (some (.inl x))) stk h) : zQV w p l e R s m args below meth c nL f (zlet x k) pc loc (.inl x :: stk) h :=
  fun r h' z => v_istore C hd hn (kk x r h' z)
theorem q_astore_nL (C : zC w p s m args c nL cc own) {k : Nat → Option (α × zH)} {i : Fin 4} {d x : Nat} (hd : decode cc pc = .ok (.astore_n i, 1)) (hn : (i : Nat) < nL) (kk : ∀ x, zQV w p l e R s m args below meth c nL f (k x) (pc + 1) (loc.set (i : Nat) (some (.inr (d, x)))) stk h) : zQV w p l e R s m args below meth c nL f (zlet x k) pc loc (.inr (d, x) :: stk) h :=
  fun r h' z => v_astore_n C hd hn (kk x r h' z)
theorem q_astoreL (C : zC w p s m args c nL cc own) {k : Nat → Option (α × zH)} {i : Nat} {d x : Nat} (hd : decode cc pc = .ok (.astore i, 2)) (hn : i < nL) (kk : ∀ x, zQV w p l e R s m args below meth c nL f (k x) (pc + 2) (loc.set i (some (.inr (d, x)))) stk h) : zQV w p l e R s m args below meth c nL f (zlet x k) pc loc (.inr (d, x) :: stk) h :=
  fun r h' z => v_astore C hd hn (kk x r h' z)
theorem q_iincL (C : zC w p s m args c nL cc own) {k : Int → Option (α × zH)} {i : Nat} {n x : Int} (hd : decode cc pc = .ok (.iinc i n, 3)) (hi : loc[i]? = some (some (.inl x))) (hn : i < nL) (kk : ∀ x, zQV w p l e R s m args below meth c nL f (k x) (pc + 3) (loc.set i (some (.inl x))) stk h) : zQV w p l e R s m args below meth c nL f (zlet (zw (x + n)) k) pc loc stk h :=
  fun r h' z => v_iinc C hd hi hn (kk _ r h' z)
theorem q_putI (C : zC w p s m args c nL cc own) {k : zH → Option (α × zH)} {idx ci j a : Nat} {x : Int} (hd : decode cc pc = .ok (.putfield idx, 3)) (hf : zPut own idx ci j .int) (ht : zft ci j = 0) (kk : ∀ h1, zQV w p l e R s m args below meth c nL f (k h1) (pc + 3) loc stk h1) : zQV w p l e R s m args below meth c nL f (zlet (zput h a j x) k) pc loc (.inl x :: .inr (ci, a) :: stk) h :=
  fun r h' z => v_putI C hd hf ht (kk _ r h' z)
theorem q_putZ (C : zC w p s m args c nL cc own) {k : zH → Option (α × zH)} {idx ci j a : Nat} {x : Int} (hd : decode cc pc = .ok (.putfield idx, 3)) (hf : zPut own idx ci j .boolean) (ht : zft ci j = 0) (hz : x = 0 ∨ x = 1) (kk : ∀ h1, zQV w p l e R s m args below meth c nL f (k h1) (pc + 3) loc stk h1) : zQV w p l e R s m args below meth c nL f (zlet (zput h a j x) k) pc loc (.inl x :: .inr (ci, a) :: stk) h :=
  fun r h' z => v_putZ C hd hf ht hz (kk _ r h' z)
theorem q_putZg (C : zC w p s m args c nL cc own) {k : zH → Option (α × zH)} {idx ci j a : Nat} {x : Int} (hd : decode cc pc = .ok (.putfield idx, 3)) (hf : zPut own idx ci j .boolean) (ht : zft ci j = 0) (kk : ∀ h1, zQV w p l e R s m args below meth c nL f (k h1) (pc + 3) loc stk h1) : zQV w p l e R s m args below meth c nL f (zgb x (zlet (zput h a j x) k)) pc loc (.inl x :: .inr (ci, a) :: stk) h :=
  fun r h' z => v_putZ C hd hf ht (zgb_some z).1 (kk _ r h' (zgb_some z).2)
theorem q_iast (C : zC w p s m args c nL cc own) {k : zH → Option (α × zH)} {d a n : Nat} {i x : Int} (hd : decode cc pc = .ok (.iastore, 1)) (hA : zIA d n .int) (kk : ∀ h1, zQV w p l e R s m args below meth c nL f (k h1) (pc + 1) loc stk h1) : zQV w p l e R s m args below meth c nL f (zgi n i (zlet (zput h a i.toNat x) k)) pc loc (.inl x :: .inl i :: .inr (d, a) :: stk) h :=
  fun r h' z => v_iast C hd hA (zgi_some z).1.1 (zgi_some z).1.2 (kk _ r h' (zgi_some z).2)
theorem q_iastN (C : zC w p s m args c nL cc own) {k : zH → Option (α × zH)} {d a n j : Nat} {i x : Int} (hd : decode cc pc = .ok (.iastore, 1)) (hA : zIA d n .int) (hj : i = (j : Int)) (h1 : j < n) (kk : ∀ h1, zQV w p l e R s m args below meth c nL f (k h1) (pc + 1) loc stk h1) : zQV w p l e R s m args below meth c nL f (zlet (zput h a j x) k) pc loc (.inl x :: .inl i :: .inr (d, a) :: stk) h :=
  fun r h' z => v_iastN C hd hA hj h1 (kk _ r h' z)
theorem zi2b_2 (x : Int) : zi2b (zi2b x) = zi2b x := by
  unfold zi2b
  rw [zi_of]
  generalize (zi x).toInt8 = y
  rw [Int8.toInt8_toInt32]
theorem q_bast (C : zC w p s m args c nL cc own) {k : zH → Option (α × zH)} {d a n : Nat} {i x : Int} (hd : decode cc pc = .ok (.bastore, 1)) (hA : zIA d n .byte) (kk : ∀ h1, zQV w p l e R s m args below meth c nL f (k h1) (pc + 1) loc stk h1) : zQV w p l e R s m args below meth c nL f (zgi n i (zlet (zput h a i.toNat (zi2b x)) k)) pc loc (.inl (zi2b x) :: .inl i :: .inr (d, a) :: stk) h :=
  fun r h' z => v_bast C hd hA (zgi_some z).1.1 (zgi_some z).1.2 (zi2b_2 x) (kk _ r h' (zgi_some z).2)
theorem q_iald (C : zC w p s m args c nL cc own) {d a n : Nat} {i : Int} (hd : decode cc pc = .ok (.iaload, 1)) (hA : zIA d n .int) (kk : zQV w p l e R s m args below meth c nL f (E) (pc + 1) loc (.inl (h.1 a i.toNat) :: stk) h) : zQV w p l e R s m args below meth c nL f (zgi n i E) pc loc (.inl i :: .inr (d, a) :: stk) h :=
  fun r h' z => v_iald C hd hA (zgi_some z).1.1 (zgi_some z).1.2 (kk r h' (zgi_some z).2)
theorem q_bald (C : zC w p s m args c nL cc own) {d a n : Nat} {i : Int} (hd : decode cc pc = .ok (.baload, 1)) (hA : zIA d n .byte) (kk : zQV w p l e R s m args below meth c nL f (E) (pc + 1) loc (.inl (h.1 a i.toNat) :: stk) h) : zQV w p l e R s m args below meth c nL f (zgi n i E) pc loc (.inl i :: .inr (d, a) :: stk) h :=
  fun r h' z => v_bald C hd hA (zgi_some z).1.1 (zgi_some z).1.2 (kk r h' (zgi_some z).2)
theorem q_aald (C : zC w p s m args c nL cc own) {d a n d1 : Nat} {i : Int} (hd : decode cc pc = .ok (.aaload, 1)) (hA : zRA d n d1) (kk : zQV w p l e R s m args below meth c nL f (E) (pc + 1) loc (.inr (d1, h.2 a i.toNat) :: stk) h) : zQV w p l e R s m args below meth c nL f (zgi n i E) pc loc (.inl i :: .inr (d, a) :: stk) h :=
  fun r h' z => v_aald C hd hA (zgi_some z).1.1 (zgi_some z).1.2 (kk r h' (zgi_some z).2)
theorem q_idiv (C : zC w p s m args c nL cc own) {x y : Int} (hd : decode cc pc = .ok (.idiv, 1)) (kk : zQV w p l e R s m args below meth c nL f (E) (pc + 1) loc (.inl (zw (x.tdiv y)) :: stk) h) : zQV w p l e R s m args below meth c nL f (zgz y E) pc loc (.inl y :: .inl x :: stk) h :=
  fun r h' z => v_idiv C hd (zgz_some z).1 (kk r h' (zgz_some z).2)
theorem q_irem (C : zC w p s m args c nL cc own) {x y : Int} (hd : decode cc pc = .ok (.irem, 1)) (kk : zQV w p l e R s m args below meth c nL f (E) (pc + 1) loc (.inl (x.tmod y) :: stk) h) : zQV w p l e R s m args below meth c nL f (zgz y E) pc loc (.inl y :: .inl x :: stk) h :=
  fun r h' z => v_irem C hd (zgz_some z).1 (kk r h' (zgz_some z).2)
theorem q_icmp_eq (C : zC w p s m args c nL cc own) {A B : Option (α × zH)} {x y : Int} {off : Int} {tgt : Nat} (hd : decode cc pc = .ok (.if_icmp .eq off, 3)) (ht : (pc : Int) + off = (tgt : Int)) (kt : zQV w p l e R s m args below meth c nL f (A) tgt loc stk h) (kf : zQV w p l e R s m args below meth c nL f (B) (pc + 3) loc stk h) : zQV w p l e R s m args below meth c nL f (if x = y then A else B) pc loc (.inl y :: .inl x :: stk) h :=
  fun r h' z => v_icmp_eq C hd ht (fun q => kt r h' (by rw [if_pos q] at z; exact z)) (fun q => kf r h' (by rw [if_neg q] at z; exact z))
theorem q_if_eq (C : zC w p s m args c nL cc own) {A B : Option (α × zH)} {x : Int} {off : Int} {tgt : Nat} (hd : decode cc pc = .ok (.ifCond .eq off, 3)) (ht : (pc : Int) + off = (tgt : Int)) (kt : zQV w p l e R s m args below meth c nL f (A) tgt loc stk h) (kf : zQV w p l e R s m args below meth c nL f (B) (pc + 3) loc stk h) : zQV w p l e R s m args below meth c nL f (if x = 0 then A else B) pc loc (.inl x :: stk) h :=
  fun r h' z => v_if_eq C hd ht (fun q => kt r h' (by rw [if_pos q] at z; exact z)) (fun q => kf r h' (by rw [if_neg q] at z; exact z))
theorem q_icmp_ne (C : zC w p s m args c nL cc own) {A B : Option (α × zH)} {x y : Int} {off : Int} {tgt : Nat} (hd : decode cc pc = .ok (.if_icmp .ne off, 3)) (ht : (pc : Int) + off = (tgt : Int)) (kt : zQV w p l e R s m args below meth c nL f (B) tgt loc stk h) (kf : zQV w p l e R s m args below meth c nL f (A) (pc + 3) loc stk h) : zQV w p l e R s m args below meth c nL f (if x = y then A else B) pc loc (.inl y :: .inl x :: stk) h :=
  fun r h' z => v_icmp_ne C hd ht (fun q => kt r h' (by rw [if_neg q] at z; exact z)) (fun q => kf r h' (by rw [if_pos q] at z; exact z))
theorem q_if_ne (C : zC w p s m args c nL cc own) {A B : Option (α × zH)} {x : Int} {off : Int} {tgt : Nat} (hd : decode cc pc = .ok (.ifCond .ne off, 3)) (ht : (pc : Int) + off = (tgt : Int)) (kt : zQV w p l e R s m args below meth c nL f (B) tgt loc stk h) (kf : zQV w p l e R s m args below meth c nL f (A) (pc + 3) loc stk h) : zQV w p l e R s m args below meth c nL f (if x = 0 then A else B) pc loc (.inl x :: stk) h :=
  fun r h' z => v_if_ne C hd ht (fun q => kt r h' (by rw [if_neg q] at z; exact z)) (fun q => kf r h' (by rw [if_pos q] at z; exact z))
theorem q_icmp_lt (C : zC w p s m args c nL cc own) {A B : Option (α × zH)} {x y : Int} {off : Int} {tgt : Nat} (hd : decode cc pc = .ok (.if_icmp .lt off, 3)) (ht : (pc : Int) + off = (tgt : Int)) (kt : zQV w p l e R s m args below meth c nL f (A) tgt loc stk h) (kf : zQV w p l e R s m args below meth c nL f (B) (pc + 3) loc stk h) : zQV w p l e R s m args below meth c nL f (if x < y then A else B) pc loc (.inl y :: .inl x :: stk) h :=
  fun r h' z => v_icmp_lt C hd ht (fun q => kt r h' (by rw [if_pos q] at z; exact z)) (fun q => kf r h' (by rw [if_neg q] at z; exact z))
theorem q_if_lt (C : zC w p s m args c nL cc own) {A B : Option (α × zH)} {x : Int} {off : Int} {tgt : Nat} (hd : decode cc pc = .ok (.ifCond .lt off, 3)) (ht : (pc : Int) + off = (tgt : Int)) (kt : zQV w p l e R s m args below meth c nL f (A) tgt loc stk h) (kf : zQV w p l e R s m args below meth c nL f (B) (pc + 3) loc stk h) : zQV w p l e R s m args below meth c nL f (if x < 0 then A else B) pc loc (.inl x :: stk) h :=
  fun r h' z => v_if_lt C hd ht (fun q => kt r h' (by rw [if_pos q] at z; exact z)) (fun q => kf r h' (by rw [if_neg q] at z; exact z))
theorem q_icmp_ge (C : zC w p s m args c nL cc own) {A B : Option (α × zH)} {x y : Int} {off : Int} {tgt : Nat} (hd : decode cc pc = .ok (.if_icmp .ge off, 3)) (ht : (pc : Int) + off = (tgt : Int)) (kt : zQV w p l e R s m args below meth c nL f (A) tgt loc stk h) (kf : zQV w p l e R s m args below meth c nL f (B) (pc + 3) loc stk h) : zQV w p l e R s m args below meth c nL f (if y ≤ x then A else B) pc loc (.inl y :: .inl x :: stk) h :=
  fun r h' z => v_icmp_ge C hd ht (fun q => kt r h' (by rw [if_pos q] at z; exact z)) (fun q => kf r h' (by rw [if_neg q] at z; exact z))
theorem q_if_ge (C : zC w p s m args c nL cc own) {A B : Option (α × zH)} {x : Int} {off : Int} {tgt : Nat} (hd : decode cc pc = .ok (.ifCond .ge off, 3)) (ht : (pc : Int) + off = (tgt : Int)) (kt : zQV w p l e R s m args below meth c nL f (A) tgt loc stk h) (kf : zQV w p l e R s m args below meth c nL f (B) (pc + 3) loc stk h) : zQV w p l e R s m args below meth c nL f (if 0 ≤ x then A else B) pc loc (.inl x :: stk) h :=
  fun r h' z => v_if_ge C hd ht (fun q => kt r h' (by rw [if_pos q] at z; exact z)) (fun q => kf r h' (by rw [if_neg q] at z; exact z))
theorem q_icmp_gt (C : zC w p s m args c nL cc own) {A B : Option (α × zH)} {x y : Int} {off : Int} {tgt : Nat} (hd : decode cc pc = .ok (.if_icmp .gt off, 3)) (ht : (pc : Int) + off = (tgt : Int)) (kt : zQV w p l e R s m args below meth c nL f (A) tgt loc stk h) (kf : zQV w p l e R s m args below meth c nL f (B) (pc + 3) loc stk h) : zQV w p l e R s m args below meth c nL f (if y < x then A else B) pc loc (.inl y :: .inl x :: stk) h :=
  fun r h' z => v_icmp_gt C hd ht (fun q => kt r h' (by rw [if_pos q] at z; exact z)) (fun q => kf r h' (by rw [if_neg q] at z; exact z))
theorem q_if_gt (C : zC w p s m args c nL cc own) {A B : Option (α × zH)} {x : Int} {off : Int} {tgt : Nat} (hd : decode cc pc = .ok (.ifCond .gt off, 3)) (ht : (pc : Int) + off = (tgt : Int)) (kt : zQV w p l e R s m args below meth c nL f (A) tgt loc stk h) (kf : zQV w p l e R s m args below meth c nL f (B) (pc + 3) loc stk h) : zQV w p l e R s m args below meth c nL f (if 0 < x then A else B) pc loc (.inl x :: stk) h :=
  fun r h' z => v_if_gt C hd ht (fun q => kt r h' (by rw [if_pos q] at z; exact z)) (fun q => kf r h' (by rw [if_neg q] at z; exact z))
theorem q_icmp_le (C : zC w p s m args c nL cc own) {A B : Option (α × zH)} {x y : Int} {off : Int} {tgt : Nat} (hd : decode cc pc = .ok (.if_icmp .le off, 3)) (ht : (pc : Int) + off = (tgt : Int)) (kt : zQV w p l e R s m args below meth c nL f (A) tgt loc stk h) (kf : zQV w p l e R s m args below meth c nL f (B) (pc + 3) loc stk h) : zQV w p l e R s m args below meth c nL f (if x ≤ y then A else B) pc loc (.inl y :: .inl x :: stk) h :=
  fun r h' z => v_icmp_le C hd ht (fun q => kt r h' (by rw [if_pos q] at z; exact z)) (fun q => kf r h' (by rw [if_neg q] at z; exact z))
theorem q_if_le (C : zC w p s m args c nL cc own) {A B : Option (α × zH)} {x : Int} {off : Int} {tgt : Nat} (hd : decode cc pc = .ok (.ifCond .le off, 3)) (ht : (pc : Int) + off = (tgt : Int)) (kt : zQV w p l e R s m args below meth c nL f (A) tgt loc stk h) (kf : zQV w p l e R s m args below meth c nL f (B) (pc + 3) loc stk h) : zQV w p l e R s m args below meth c nL f (if x ≤ 0 then A else B) pc loc (.inl x :: stk) h :=
  fun r h' z => v_if_le C hd ht (fun q => kt r h' (by rw [if_pos q] at z; exact z)) (fun q => kf r h' (by rw [if_neg q] at z; exact z))
theorem q_copy (C : zC w p s m args c nL cc own) {k : zH → Option (α × zH)} {idx d a b n : Nat} (hd : decode cc pc = .ok (.invokestatic idx, 3)) (hm : Cond.methodLink own idx arraycopyName ∈ zw_T) (hA : zIA d n .int) (hn : n < 2147483648) (hR : 1 ≤ R.frames ∧ stk.length + (nativeFrameWords "java/lang/System" "arraycopy" 5 + 11) ≤ R.locals) (kk : ∀ h1, zQV w p l e R s m args below meth c nL f (k h1) (pc + 3) loc stk h1) : zQV w p l e R s m args below meth c nL f (zlet (zcpy h a b n) k) pc loc (.inl (n : Int) :: .inl 0 :: .inr (d, b) :: .inl 0 :: .inr (d, a) :: stk) h :=
  fun r h' z => v_copy C hd hm hA hn hR (kk _ r h' z)
theorem q_iret (C : zC w p s m args c nL cc own) {x : Int} (hr : meth.sig.returnType = some .int) (hlk : meth.locks = false) (hd : decode cc pc = .ok (.ireturn, 1)) : zQV (α := Int) w p l e R s m args below meth c nL qI (some (x, h)) pc loc [.inl x] h :=
  fun r h' z => by
    cases z
    exact v_iret C hr hlk hd ⟨rfl, rfl⟩
theorem q_zret (C : zC w p s m args c nL cc own) {x : Int} (hr : meth.sig.returnType = some .boolean) (hlk : meth.locks = false) (hz : x = 0 ∨ x = 1) (hd : decode cc pc = .ok (.ireturn, 1)) : zQV (α := Int) w p l e R s m args below meth c nL qI (some (x, h)) pc loc [.inl x] h :=
  fun r h' z => by
    cases z
    exact v_zret C hr hlk hz hd ⟨rfl, rfl⟩
theorem q_zretg (C : zC w p s m args c nL cc own) {x : Int} (hr : meth.sig.returnType = some .boolean) (hlk : meth.locks = false) (hd : decode cc pc = .ok (.ireturn, 1)) : zQV (α := Int) w p l e R s m args below meth c nL qI (zgb x (some (x, h))) pc loc [.inl x] h :=
  fun r h' z => by
    obtain ⟨hz, z⟩ := zgb_some z
    cases z
    exact v_zret C hr hlk hz hd ⟨rfl, rfl⟩
theorem q_aret (C : zC w p s m args c nL cc own) {a d : Nat} {Cn : String} (hr : meth.sig.returnType = some (.object Cn)) (hlk : meth.locks = false) (hd : decode cc pc = .ok (.areturn, 1)) : zQV (α := Nat) w p l e R s m args below meth c nL (qR d) (some (a, h)) pc loc [.inr (d, a)] h :=
  fun r h' z => by
    cases z
    exact v_aret C hr hlk hd ⟨rfl, rfl⟩
theorem q_saret (C : zC w p s m args c nL cc own) {a : Nat} {Cn : String} (hr : meth.sig.returnType = some (.object Cn)) (hlk : meth.locks = false) (hd : decode cc pc = .ok (.areturn, 1)) : zQV (α := Nat) w p l e R s m args below meth c nL (qS w) (some (a, h)) pc loc [.inr (30, zwS w a)] h :=
  fun r h' z => by
    cases z
    exact v_aret C hr hlk hd ⟨rfl, rfl⟩
theorem q_vret (C : zC w p s m args c nL cc own) (hr : meth.sig.returnType = none) (hlk : meth.locks = false) (hd : decode cc pc = .ok (.return_, 1)) : zQV (α := Unit) w p l e R s m args below meth c nL qU (some ((), h)) pc loc [] h :=
  fun r h' z => by
    cases z
    exact v_vret C hr hlk hd ⟨rfl, rfl⟩
theorem q_callVI (C : zC w p s m args c nL cc own) {idx ci a n j fr lo : Nat} {y : MethodName} {b : ByteArray} {ret : Option FieldType} {As rest : List zv} {E2 : Option (Int × zH)} {k : Int → zH → Option (α × zH)} (hd : decode cc pc = .ok (.invokevirtual idx, 3)) (hm : zMV own idx ci y b n ret j)
    (hc : zCq w l y b n ret fr lo (.inr (ci, a) :: As) h qI E2) (hs : stk = As.reverse ++ .inr (ci, a) :: rest) (hR : fr + 1 ≤ R.frames ∧ 8 + (n + 11) + lo ≤ R.locals) (hk8 : As.length = j ∧ rest.length ≤ 8)
    (kk : ∀ v h1, zQV w p l e R s m args below meth c nL f (k v h1) (pc + 3) loc (.inl v :: rest) h1) : zQV w p l e R s m args below meth c nL f (zbd E2 k) pc loc stk h := by
  intro r h' z
  match E2, hc, z with
  | some (v, h1), hc, z => exact v_callV C hd hm (hc v h1 rfl) hs hR ⟨Nat.zero_le _, Nat.zero_le _⟩ hk8 fun r2 h2 q => by rw [q.1, q.2]; exact kk v h1 r h' z
theorem q_callVU (C : zC w p s m args c nL cc own) {idx ci a n j fr lo : Nat} {y : MethodName} {b : ByteArray} {ret : Option FieldType} {As rest : List zv} {E2 : Option (Unit × zH)} {k : Unit → zH → Option (α × zH)} (hd : decode cc pc = .ok (.invokevirtual idx, 3)) (hm : zMV own idx ci y b n ret j)
    (hc : zCq w l y b n ret fr lo (.inr (ci, a) :: As) h qU E2) (hs : stk = As.reverse ++ .inr (ci, a) :: rest) (hR : fr + 1 ≤ R.frames ∧ 8 + (n + 11) + lo ≤ R.locals) (hk8 : As.length = j ∧ rest.length ≤ 8)
    (kk : ∀ v h1, zQV w p l e R s m args below meth c nL f (k v h1) (pc + 3) loc rest h1) : zQV w p l e R s m args below meth c nL f (zbd E2 k) pc loc stk h := by
  intro r h' z
  match E2, hc, z with
  | some (v, h1), hc, z => exact v_callV C hd hm (hc v h1 rfl) hs hR ⟨Nat.zero_le _, Nat.zero_le _⟩ hk8 fun r2 h2 q => by rw [q.1, q.2]; exact kk v h1 r h' z
theorem q_callVR (C : zC w p s m args c nL cc own) {idx ci a n j fr lo : Nat} {d : Nat} {y : MethodName} {b : ByteArray} {ret : Option FieldType} {As rest : List zv} {E2 : Option (Nat × zH)} {k : Nat → zH → Option (α × zH)} (hd : decode cc pc = .ok (.invokevirtual idx, 3)) (hm : zMV own idx ci y b n ret j)
    (hc : zCq w l y b n ret fr lo (.inr (ci, a) :: As) h (qR d) E2) (hs : stk = As.reverse ++ .inr (ci, a) :: rest) (hR : fr + 1 ≤ R.frames ∧ 8 + (n + 11) + lo ≤ R.locals) (hk8 : As.length = j ∧ rest.length ≤ 8)
    (kk : ∀ v h1, zQV w p l e R s m args below meth c nL f (k v h1) (pc + 3) loc (.inr (d, v) :: rest) h1) : zQV w p l e R s m args below meth c nL f (zbd E2 k) pc loc stk h := by
  intro r h' z
  match E2, hc, z with
  | some (v, h1), hc, z => exact v_callV C hd hm (hc v h1 rfl) hs hR ⟨Nat.zero_le _, Nat.zero_le _⟩ hk8 fun r2 h2 q => by rw [q.1, q.2]; exact kk v h1 r h' z
theorem q_callSI (C : zC w p s m args c nL cc own) {idx n j fr lo : Nat} {y : MethodName} {b : ByteArray} {ret : Option FieldType} {As rest : List zv} {E2 : Option (Int × zH)} {k : Int → zH → Option (α × zH)} (hd : decode cc pc = .ok (.invokestatic idx, 3)) (hm : zMS own idx y b n ret j)
    (hc : zCq w l y b n ret fr lo As h qI E2) (hs : stk = As.reverse ++ rest) (hR : fr + 1 ≤ R.frames ∧ 8 + (n + 11) + lo ≤ R.locals) (hk8 : As.length = j ∧ rest.length ≤ 8)
    (kk : ∀ v h1, zQV w p l e R s m args below meth c nL f (k v h1) (pc + 3) loc (.inl v :: rest) h1) : zQV w p l e R s m args below meth c nL f (zbd E2 k) pc loc stk h := by
  intro r h' z
  match E2, hc, z with
  | some (v, h1), hc, z => exact v_callS C hd hm (hc v h1 rfl) hs hR ⟨Nat.zero_le _, Nat.zero_le _⟩ hk8 fun r2 h2 q => by rw [q.1, q.2]; exact kk v h1 r h' z
theorem q_callSU (C : zC w p s m args c nL cc own) {idx n j fr lo : Nat} {y : MethodName} {b : ByteArray} {ret : Option FieldType} {As rest : List zv} {E2 : Option (Unit × zH)} {k : Unit → zH → Option (α × zH)} (hd : decode cc pc = .ok (.invokestatic idx, 3)) (hm : zMS own idx y b n ret j)
    (hc : zCq w l y b n ret fr lo As h qU E2) (hs : stk = As.reverse ++ rest) (hR : fr + 1 ≤ R.frames ∧ 8 + (n + 11) + lo ≤ R.locals) (hk8 : As.length = j ∧ rest.length ≤ 8)
    (kk : ∀ v h1, zQV w p l e R s m args below meth c nL f (k v h1) (pc + 3) loc rest h1) : zQV w p l e R s m args below meth c nL f (zbd E2 k) pc loc stk h := by
  intro r h' z
  match E2, hc, z with
  | some (v, h1), hc, z => exact v_callS C hd hm (hc v h1 rfl) hs hR ⟨Nat.zero_le _, Nat.zero_le _⟩ hk8 fun r2 h2 q => by rw [q.1, q.2]; exact kk v h1 r h' z
theorem q_callSR (C : zC w p s m args c nL cc own) {idx n j fr lo : Nat} {d : Nat} {y : MethodName} {b : ByteArray} {ret : Option FieldType} {As rest : List zv} {E2 : Option (Nat × zH)} {k : Nat → zH → Option (α × zH)} (hd : decode cc pc = .ok (.invokestatic idx, 3)) (hm : zMS own idx y b n ret j)
    (hc : zCq w l y b n ret fr lo As h (qR d) E2) (hs : stk = As.reverse ++ rest) (hR : fr + 1 ≤ R.frames ∧ 8 + (n + 11) + lo ≤ R.locals) (hk8 : As.length = j ∧ rest.length ≤ 8)
    (kk : ∀ v h1, zQV w p l e R s m args below meth c nL f (k v h1) (pc + 3) loc (.inr (d, v) :: rest) h1) : zQV w p l e R s m args below meth c nL f (zbd E2 k) pc loc stk h := by
  intro r h' z
  match E2, hc, z with
  | some (v, h1), hc, z => exact v_callS C hd hm (hc v h1 rfl) hs hR ⟨Nat.zero_le _, Nat.zero_le _⟩ hk8 fun r2 h2 q => by rw [q.1, q.2]; exact kk v h1 r h' z
theorem q_callNI (C : zC w p s m args c nL cc own) {idx n j fr lo : Nat} {host : String} {y : MethodName} {b : ByteArray} {ret : Option FieldType} {As rest : List zv} {E2 : Option (Int × zH)} {k : Int → zH → Option (α × zH)} (hd : decode cc pc = .ok (.invokestatic idx, 3)) (hm : zMN own idx y host b n ret j)
    (hc : zCq w l y b n ret fr lo As h qI E2) (hs : stk = As.reverse ++ rest) (hR : fr + 1 ≤ R.frames ∧ 8 + (n + 11) + lo ≤ R.locals) (hk8 : As.length = j ∧ rest.length ≤ 8)
    (kk : ∀ v h1, zQV w p l e R s m args below meth c nL f (k v h1) (pc + 3) loc (.inl v :: rest) h1) : zQV w p l e R s m args below meth c nL f (zbd E2 k) pc loc stk h := by
  intro r h' z
  match E2, hc, z with
  | some (v, h1), hc, z => exact v_callN C hd hm (hc v h1 rfl) hs hR ⟨Nat.zero_le _, Nat.zero_le _⟩ hk8 fun r2 h2 q => by rw [q.1, q.2]; exact kk v h1 r h' z
theorem q_callNU (C : zC w p s m args c nL cc own) {idx n j fr lo : Nat} {host : String} {y : MethodName} {b : ByteArray} {ret : Option FieldType} {As rest : List zv} {E2 : Option (Unit × zH)} {k : Unit → zH → Option (α × zH)} (hd : decode cc pc = .ok (.invokestatic idx, 3)) (hm : zMN own idx y host b n ret j)
    (hc : zCq w l y b n ret fr lo As h qU E2) (hs : stk = As.reverse ++ rest) (hR : fr + 1 ≤ R.frames ∧ 8 + (n + 11) + lo ≤ R.locals) (hk8 : As.length = j ∧ rest.length ≤ 8)
    (kk : ∀ v h1, zQV w p l e R s m args below meth c nL f (k v h1) (pc + 3) loc rest h1) : zQV w p l e R s m args below meth c nL f (zbd E2 k) pc loc stk h := by
  intro r h' z
  match E2, hc, z with
  | some (v, h1), hc, z => exact v_callN C hd hm (hc v h1 rfl) hs hR ⟨Nat.zero_le _, Nat.zero_le _⟩ hk8 fun r2 h2 q => by rw [q.1, q.2]; exact kk v h1 r h' z
theorem q_callNR (C : zC w p s m args c nL cc own) {idx n j fr lo : Nat} {host : String} {d : Nat} {y : MethodName} {b : ByteArray} {ret : Option FieldType} {As rest : List zv} {E2 : Option (Nat × zH)} {k : Nat → zH → Option (α × zH)} (hd : decode cc pc = .ok (.invokestatic idx, 3)) (hm : zMN own idx y host b n ret j)
    (hc : zCq w l y b n ret fr lo As h (qR d) E2) (hs : stk = As.reverse ++ rest) (hR : fr + 1 ≤ R.frames ∧ 8 + (n + 11) + lo ≤ R.locals) (hk8 : As.length = j ∧ rest.length ≤ 8)
    (kk : ∀ v h1, zQV w p l e R s m args below meth c nL f (k v h1) (pc + 3) loc (.inr (d, v) :: rest) h1) : zQV w p l e R s m args below meth c nL f (zbd E2 k) pc loc stk h := by
  intro r h' z
  match E2, hc, z with
  | some (v, h1), hc, z => exact v_callN C hd hm (hc v h1 rfl) hs hR ⟨Nat.zero_le _, Nat.zero_le _⟩ hk8 fun r2 h2 q => by rw [q.1, q.2]; exact kk v h1 r h' z
theorem q_pcallVI (C : zC w p s m args c nL cc own) {idx ci a n j fr lo : Nat} {y : MethodName} {b : ByteArray} {ret : Option FieldType} {As rest : List zv} {E2 : Option Int} {k : Int → Option (α × zH)} (hd : decode cc pc = .ok (.invokevirtual idx, 3)) (hm : zMV own idx ci y b n ret j)
    (hc : zCp w l y b n ret fr lo (.inr (ci, a) :: As) h qI E2) (hs : stk = As.reverse ++ .inr (ci, a) :: rest) (hR : fr + 1 ≤ R.frames ∧ 8 + (n + 11) + lo ≤ R.locals) (hk8 : As.length = j ∧ rest.length ≤ 8)
    (kk : ∀ v, zQV w p l e R s m args below meth c nL f (k v) (pc + 3) loc (.inl v :: rest) h) : zQV w p l e R s m args below meth c nL f (zbp E2 k) pc loc stk h := by
  intro r h' z
  match E2, hc, z with
  | some v, hc, z => exact v_callV C hd hm (hc v rfl) hs hR ⟨Nat.zero_le _, Nat.zero_le _⟩ hk8 fun r2 h2 q => by rw [q.1, q.2]; exact kk v r h' z
theorem q_pcallVR (C : zC w p s m args c nL cc own) {idx ci a n j fr lo : Nat} {d : Nat} {y : MethodName} {b : ByteArray} {ret : Option FieldType} {As rest : List zv} {E2 : Option Nat} {k : Nat → Option (α × zH)} (hd : decode cc pc = .ok (.invokevirtual idx, 3)) (hm : zMV own idx ci y b n ret j)
    (hc : zCp w l y b n ret fr lo (.inr (ci, a) :: As) h (qR d) E2) (hs : stk = As.reverse ++ .inr (ci, a) :: rest) (hR : fr + 1 ≤ R.frames ∧ 8 + (n + 11) + lo ≤ R.locals) (hk8 : As.length = j ∧ rest.length ≤ 8)
    (kk : ∀ v, zQV w p l e R s m args below meth c nL f (k v) (pc + 3) loc (.inr (d, v) :: rest) h) : zQV w p l e R s m args below meth c nL f (zbp E2 k) pc loc stk h := by
  intro r h' z
  match E2, hc, z with
  | some v, hc, z => exact v_callV C hd hm (hc v rfl) hs hR ⟨Nat.zero_le _, Nat.zero_le _⟩ hk8 fun r2 h2 q => by rw [q.1, q.2]; exact kk v r h' z
theorem q_pcallVS (C : zC w p s m args c nL cc own) {idx ci a n j fr lo : Nat} {y : MethodName} {b : ByteArray} {ret : Option FieldType} {As rest : List zv} {E2 : Option Nat} {k : Nat → Option (α × zH)} (hd : decode cc pc = .ok (.invokevirtual idx, 3)) (hm : zMV own idx ci y b n ret j)
    (hc : zCp w l y b n ret fr lo (.inr (ci, a) :: As) h (qS w) E2) (hs : stk = As.reverse ++ .inr (ci, a) :: rest) (hR : fr + 1 ≤ R.frames ∧ 8 + (n + 11) + lo ≤ R.locals) (hk8 : As.length = j ∧ rest.length ≤ 8)
    (kk : ∀ v, zQV w p l e R s m args below meth c nL f (k v) (pc + 3) loc (.inr (30, zwS w v) :: rest) h) : zQV w p l e R s m args below meth c nL f (zbp E2 k) pc loc stk h := by
  intro r h' z
  match E2, hc, z with
  | some v, hc, z => exact v_callV C hd hm (hc v rfl) hs hR ⟨Nat.zero_le _, Nat.zero_le _⟩ hk8 fun r2 h2 q => by rw [q.1, q.2]; exact kk v r h' z
theorem q_pcallVU (C : zC w p s m args c nL cc own) {idx ci a n j fr lo : Nat} {y : MethodName} {b : ByteArray} {ret : Option FieldType} {As rest : List zv} {E2 : Option Unit} {k : Unit → Option (α × zH)} (hd : decode cc pc = .ok (.invokevirtual idx, 3)) (hm : zMV own idx ci y b n ret j)
    (hc : zCp w l y b n ret fr lo (.inr (ci, a) :: As) h qU E2) (hs : stk = As.reverse ++ .inr (ci, a) :: rest) (hR : fr + 1 ≤ R.frames ∧ 8 + (n + 11) + lo ≤ R.locals) (hk8 : As.length = j ∧ rest.length ≤ 8)
    (kk : ∀ v, zQV w p l e R s m args below meth c nL f (k v) (pc + 3) loc rest h) : zQV w p l e R s m args below meth c nL f (zbp E2 k) pc loc stk h := by
  intro r h' z
  match E2, hc, z with
  | some v, hc, z => exact v_callV C hd hm (hc v rfl) hs hR ⟨Nat.zero_le _, Nat.zero_le _⟩ hk8 fun r2 h2 q => by rw [q.1, q.2]; exact kk v r h' z
theorem q_pcallSI (C : zC w p s m args c nL cc own) {idx n j fr lo : Nat} {y : MethodName} {b : ByteArray} {ret : Option FieldType} {As rest : List zv} {E2 : Option Int} {k : Int → Option (α × zH)} (hd : decode cc pc = .ok (.invokestatic idx, 3)) (hm : zMS own idx y b n ret j)
    (hc : zCp w l y b n ret fr lo As h qI E2) (hs : stk = As.reverse ++ rest) (hR : fr + 1 ≤ R.frames ∧ 8 + (n + 11) + lo ≤ R.locals) (hk8 : As.length = j ∧ rest.length ≤ 8)
    (kk : ∀ v, zQV w p l e R s m args below meth c nL f (k v) (pc + 3) loc (.inl v :: rest) h) : zQV w p l e R s m args below meth c nL f (zbp E2 k) pc loc stk h := by
  intro r h' z
  match E2, hc, z with
  | some v, hc, z => exact v_callS C hd hm (hc v rfl) hs hR ⟨Nat.zero_le _, Nat.zero_le _⟩ hk8 fun r2 h2 q => by rw [q.1, q.2]; exact kk v r h' z
theorem q_pcallSR (C : zC w p s m args c nL cc own) {idx n j fr lo : Nat} {d : Nat} {y : MethodName} {b : ByteArray} {ret : Option FieldType} {As rest : List zv} {E2 : Option Nat} {k : Nat → Option (α × zH)} (hd : decode cc pc = .ok (.invokestatic idx, 3)) (hm : zMS own idx y b n ret j)
    (hc : zCp w l y b n ret fr lo As h (qR d) E2) (hs : stk = As.reverse ++ rest) (hR : fr + 1 ≤ R.frames ∧ 8 + (n + 11) + lo ≤ R.locals) (hk8 : As.length = j ∧ rest.length ≤ 8)
    (kk : ∀ v, zQV w p l e R s m args below meth c nL f (k v) (pc + 3) loc (.inr (d, v) :: rest) h) : zQV w p l e R s m args below meth c nL f (zbp E2 k) pc loc stk h := by
  intro r h' z
  match E2, hc, z with
  | some v, hc, z => exact v_callS C hd hm (hc v rfl) hs hR ⟨Nat.zero_le _, Nat.zero_le _⟩ hk8 fun r2 h2 q => by rw [q.1, q.2]; exact kk v r h' z
theorem q_pcallSS (C : zC w p s m args c nL cc own) {idx n j fr lo : Nat} {y : MethodName} {b : ByteArray} {ret : Option FieldType} {As rest : List zv} {E2 : Option Nat} {k : Nat → Option (α × zH)} (hd : decode cc pc = .ok (.invokestatic idx, 3)) (hm : zMS own idx y b n ret j)
    (hc : zCp w l y b n ret fr lo As h (qS w) E2) (hs : stk = As.reverse ++ rest) (hR : fr + 1 ≤ R.frames ∧ 8 + (n + 11) + lo ≤ R.locals) (hk8 : As.length = j ∧ rest.length ≤ 8)
    (kk : ∀ v, zQV w p l e R s m args below meth c nL f (k v) (pc + 3) loc (.inr (30, zwS w v) :: rest) h) : zQV w p l e R s m args below meth c nL f (zbp E2 k) pc loc stk h := by
  intro r h' z
  match E2, hc, z with
  | some v, hc, z => exact v_callS C hd hm (hc v rfl) hs hR ⟨Nat.zero_le _, Nat.zero_le _⟩ hk8 fun r2 h2 q => by rw [q.1, q.2]; exact kk v r h' z
theorem q_pcallSU (C : zC w p s m args c nL cc own) {idx n j fr lo : Nat} {y : MethodName} {b : ByteArray} {ret : Option FieldType} {As rest : List zv} {E2 : Option Unit} {k : Unit → Option (α × zH)} (hd : decode cc pc = .ok (.invokestatic idx, 3)) (hm : zMS own idx y b n ret j)
    (hc : zCp w l y b n ret fr lo As h qU E2) (hs : stk = As.reverse ++ rest) (hR : fr + 1 ≤ R.frames ∧ 8 + (n + 11) + lo ≤ R.locals) (hk8 : As.length = j ∧ rest.length ≤ 8)
    (kk : ∀ v, zQV w p l e R s m args below meth c nL f (k v) (pc + 3) loc rest h) : zQV w p l e R s m args below meth c nL f (zbp E2 k) pc loc stk h := by
  intro r h' z
  match E2, hc, z with
  | some v, hc, z => exact v_callS C hd hm (hc v rfl) hs hR ⟨Nat.zero_le _, Nat.zero_le _⟩ hk8 fun r2 h2 q => by rw [q.1, q.2]; exact kk v r h' z
theorem q_pcallNI (C : zC w p s m args c nL cc own) {idx n j fr lo : Nat} {host : String} {y : MethodName} {b : ByteArray} {ret : Option FieldType} {As rest : List zv} {E2 : Option Int} {k : Int → Option (α × zH)} (hd : decode cc pc = .ok (.invokestatic idx, 3)) (hm : zMN own idx y host b n ret j)
    (hc : zCp w l y b n ret fr lo As h qI E2) (hs : stk = As.reverse ++ rest) (hR : fr + 1 ≤ R.frames ∧ 8 + (n + 11) + lo ≤ R.locals) (hk8 : As.length = j ∧ rest.length ≤ 8)
    (kk : ∀ v, zQV w p l e R s m args below meth c nL f (k v) (pc + 3) loc (.inl v :: rest) h) : zQV w p l e R s m args below meth c nL f (zbp E2 k) pc loc stk h := by
  intro r h' z
  match E2, hc, z with
  | some v, hc, z => exact v_callN C hd hm (hc v rfl) hs hR ⟨Nat.zero_le _, Nat.zero_le _⟩ hk8 fun r2 h2 q => by rw [q.1, q.2]; exact kk v r h' z
theorem q_pcallNR (C : zC w p s m args c nL cc own) {idx n j fr lo : Nat} {host : String} {d : Nat} {y : MethodName} {b : ByteArray} {ret : Option FieldType} {As rest : List zv} {E2 : Option Nat} {k : Nat → Option (α × zH)} (hd : decode cc pc = .ok (.invokestatic idx, 3)) (hm : zMN own idx y host b n ret j)
    (hc : zCp w l y b n ret fr lo As h (qR d) E2) (hs : stk = As.reverse ++ rest) (hR : fr + 1 ≤ R.frames ∧ 8 + (n + 11) + lo ≤ R.locals) (hk8 : As.length = j ∧ rest.length ≤ 8)
    (kk : ∀ v, zQV w p l e R s m args below meth c nL f (k v) (pc + 3) loc (.inr (d, v) :: rest) h) : zQV w p l e R s m args below meth c nL f (zbp E2 k) pc loc stk h := by
  intro r h' z
  match E2, hc, z with
  | some v, hc, z => exact v_callN C hd hm (hc v rfl) hs hR ⟨Nat.zero_le _, Nat.zero_le _⟩ hk8 fun r2 h2 q => by rw [q.1, q.2]; exact kk v r h' z
theorem q_pcallNS (C : zC w p s m args c nL cc own) {idx n j fr lo : Nat} {host : String} {y : MethodName} {b : ByteArray} {ret : Option FieldType} {As rest : List zv} {E2 : Option Nat} {k : Nat → Option (α × zH)} (hd : decode cc pc = .ok (.invokestatic idx, 3)) (hm : zMN own idx y host b n ret j)
    (hc : zCp w l y b n ret fr lo As h (qS w) E2) (hs : stk = As.reverse ++ rest) (hR : fr + 1 ≤ R.frames ∧ 8 + (n + 11) + lo ≤ R.locals) (hk8 : As.length = j ∧ rest.length ≤ 8)
    (kk : ∀ v, zQV w p l e R s m args below meth c nL f (k v) (pc + 3) loc (.inr (30, zwS w v) :: rest) h) : zQV w p l e R s m args below meth c nL f (zbp E2 k) pc loc stk h := by
  intro r h' z
  match E2, hc, z with
  | some v, hc, z => exact v_callN C hd hm (hc v rfl) hs hR ⟨Nat.zero_le _, Nat.zero_le _⟩ hk8 fun r2 h2 q => by rw [q.1, q.2]; exact kk v r h' z
theorem q_pcallNU (C : zC w p s m args c nL cc own) {idx n j fr lo : Nat} {host : String} {y : MethodName} {b : ByteArray} {ret : Option FieldType} {As rest : List zv} {E2 : Option Unit} {k : Unit → Option (α × zH)} (hd : decode cc pc = .ok (.invokestatic idx, 3)) (hm : zMN own idx y host b n ret j)
    (hc : zCp w l y b n ret fr lo As h qU E2) (hs : stk = As.reverse ++ rest) (hR : fr + 1 ≤ R.frames ∧ 8 + (n + 11) + lo ≤ R.locals) (hk8 : As.length = j ∧ rest.length ≤ 8)
    (kk : ∀ v, zQV w p l e R s m args below meth c nL f (k v) (pc + 3) loc rest h) : zQV w p l e R s m args below meth c nL f (zbp E2 k) pc loc stk h := by
  intro r h' z
  match E2, hc, z with
  | some v, hc, z => exact v_callN C hd hm (hc v rfl) hs hR ⟨Nat.zero_le _, Nat.zero_le _⟩ hk8 fun r2 h2 q => by rw [q.1, q.2]; exact kk v r h' z
theorem q_tsw5 (C : zC w p s m args c nL cc own) {A0 A1 A2 A3 A4 D : Option (α × zH)} {x dflt o0 o1 o2 o3 o4 : Int} {len t0 t1 t2 t3 t4 td : Nat} (hd : decode cc pc = .ok (.tableswitch dflt 0 4 #[o0, o1, o2, o3, o4], len)) (ht : (pc : Int) + o0 = (t0 : Int) ∧ (pc : Int) + o1 = (t1 : Int) ∧ (pc : Int) + o2 = (t2 : Int) ∧ (pc : Int) + o3 = (t3 : Int) ∧ (pc : Int) + o4 = (t4 : Int) ∧ (pc : Int) + dflt = (td : Int)) (k0 : zQV w p l e R s m args below meth c nL f A0 t0 loc stk h) (k1 : zQV w p l e R s m args below meth c nL f A1 t1 loc stk h) (k2 : zQV w p l e R s m args below meth c nL f A2 t2 loc stk h) (k3 : zQV w p l e R s m args below meth c nL f A3 t3 loc stk h) (k4 : zQV w p l e R s m args below meth c nL f A4 t4 loc stk h) (kd : zQV w p l e R s m args below meth c nL f D td loc stk h) : zQV w p l e R s m args below meth c nL f (if x = 0 then A0 else if x = 1 then A1 else if x = 2 then A2 else if x = 3 then A3 else if x = 4 then A4 else D) pc loc (.inl x :: stk) h := by
  intro r h' z
  obtain ⟨g0, g1, g2, g3, g4, gd⟩ := ht
  by_cases e0 : x = 0
  · rw [if_pos e0] at z
    exact v_tabIn C (k := 0) hd (by omega) (by decide) rfl g0 (k0 r h' z)
  by_cases e1 : x = 1
  · rw [if_neg e0, if_pos e1] at z
    exact v_tabIn C (k := 1) hd (by omega) (by decide) rfl g1 (k1 r h' z)
  by_cases e2 : x = 2
  · rw [if_neg e0, if_neg e1, if_pos e2] at z
    exact v_tabIn C (k := 2) hd (by omega) (by decide) rfl g2 (k2 r h' z)
  by_cases e3 : x = 3
  · rw [if_neg e0, if_neg e1, if_neg e2, if_pos e3] at z
    exact v_tabIn C (k := 3) hd (by omega) (by decide) rfl g3 (k3 r h' z)
  by_cases e4 : x = 4
  · rw [if_neg e0, if_neg e1, if_neg e2, if_neg e3, if_pos e4] at z
    exact v_tabIn C (k := 4) hd (by omega) (by decide) rfl g4 (k4 r h' z)
  rw [if_neg e0, if_neg e1, if_neg e2, if_neg e3, if_neg e4] at z
  exact v_tabOut C hd (by omega) gd (kd r h' z)
theorem q_tsw6 (C : zC w p s m args c nL cc own) {A0 A1 A2 A3 A4 A5 D : Option (α × zH)} {x dflt o0 o1 o2 o3 o4 o5 : Int} {len t0 t1 t2 t3 t4 t5 td : Nat} (hd : decode cc pc = .ok (.tableswitch dflt 0 5 #[o0, o1, o2, o3, o4, o5], len)) (ht : (pc : Int) + o0 = (t0 : Int) ∧ (pc : Int) + o1 = (t1 : Int) ∧ (pc : Int) + o2 = (t2 : Int) ∧ (pc : Int) + o3 = (t3 : Int) ∧ (pc : Int) + o4 = (t4 : Int) ∧ (pc : Int) + o5 = (t5 : Int) ∧ (pc : Int) + dflt = (td : Int)) (k0 : zQV w p l e R s m args below meth c nL f A0 t0 loc stk h) (k1 : zQV w p l e R s m args below meth c nL f A1 t1 loc stk h) (k2 : zQV w p l e R s m args below meth c nL f A2 t2 loc stk h) (k3 : zQV w p l e R s m args below meth c nL f A3 t3 loc stk h) (k4 : zQV w p l e R s m args below meth c nL f A4 t4 loc stk h) (k5 : zQV w p l e R s m args below meth c nL f A5 t5 loc stk h) (kd : zQV w p l e R s m args below meth c nL f D td loc stk h) : zQV w p l e R s m args below meth c nL f (if x = 0 then A0 else if x = 1 then A1 else if x = 2 then A2 else if x = 3 then A3 else if x = 4 then A4 else if x = 5 then A5 else D) pc loc (.inl x :: stk) h := by
  intro r h' z
  obtain ⟨g0, g1, g2, g3, g4, g5, gd⟩ := ht
  by_cases e0 : x = 0
  · rw [if_pos e0] at z
    exact v_tabIn C (k := 0) hd (by omega) (by decide) rfl g0 (k0 r h' z)
  by_cases e1 : x = 1
  · rw [if_neg e0, if_pos e1] at z
    exact v_tabIn C (k := 1) hd (by omega) (by decide) rfl g1 (k1 r h' z)
  by_cases e2 : x = 2
  · rw [if_neg e0, if_neg e1, if_pos e2] at z
    exact v_tabIn C (k := 2) hd (by omega) (by decide) rfl g2 (k2 r h' z)
  by_cases e3 : x = 3
  · rw [if_neg e0, if_neg e1, if_neg e2, if_pos e3] at z
    exact v_tabIn C (k := 3) hd (by omega) (by decide) rfl g3 (k3 r h' z)
  by_cases e4 : x = 4
  · rw [if_neg e0, if_neg e1, if_neg e2, if_neg e3, if_pos e4] at z
    exact v_tabIn C (k := 4) hd (by omega) (by decide) rfl g4 (k4 r h' z)
  by_cases e5 : x = 5
  · rw [if_neg e0, if_neg e1, if_neg e2, if_neg e3, if_neg e4, if_pos e5] at z
    exact v_tabIn C (k := 5) hd (by omega) (by decide) rfl g5 (k5 r h' z)
  rw [if_neg e0, if_neg e1, if_neg e2, if_neg e3, if_neg e4, if_neg e5] at z
  exact v_tabOut C hd (by omega) gd (kd r h' z)
theorem q_gst0 (C : zC w p s m args c nL cc own) {idx i : Nat} (hd : decode cc pc = .ok (.getstatic idx, 3)) (hi : i < 3) (hm : Cond.fieldLink own idx RX7 (zsN i) "[I" ∈ zw_T)
    (kk : zQV w p l e R s m args below meth c nL f E (pc + 3) loc (.inr (30, zwS w (20 + i)) :: stk) h) : zQV w p l e R s m args below meth c nL f E pc loc stk h :=
  fun r h' z => v_gst0 C hd hi hm (kk r h' z)
theorem q_gst1 (C : zC w p s m args c nL cc own) {idx i : Nat} (hd : decode cc pc = .ok (.getstatic idx, 3)) (hi : i < 3) (hm : (own, idx, RX7, zsN i, "[I", RX7) ∈ zw_NF)
    (kk : zQV w p l e R s m args below meth c nL f E (pc + 3) loc (.inr (30, zwS w (20 + i)) :: stk) h) : zQV w p l e R s m args below meth c nL f E pc loc stk h :=
  fun r h' z => v_gst1 C hd hi hm (kk r h' z)
theorem q_sald (C : zC w p s m args c nL cc own) {i : Nat} {x : Int} (hd : decode cc pc = .ok (.iaload, 1)) (hi : i < 3)
    (kk : zQV w p l e R s m args below meth c nL f E (pc + 1) loc (.inl (zsV i x.toNat) :: stk) h) : zQV w p l e R s m args below meth c nL f (zgi 7 x E) pc loc (.inl x :: .inr (30, zwS w (20 + i)) :: stk) h :=
  fun r h' z => v_sald C hd hi (zgi_some z).1.1 (zgi_some z).1.2 (kk r h' (zgi_some z).2)
theorem q_ldcS (C : zC w p s m args c nL cc own) {idx i : Nat} {tx : String} (hd : decode cc pc = .ok (.ldc idx, 2)) (hm : (own, idx, i, tx) ∈ zw_SR) (hi : i < 16)
    (kk : zQV w p l e R s m args below meth c nL f E (pc + 2) loc (.inr (30, zwS w i) :: stk) h) : zQV w p l e R s m args below meth c nL f E pc loc stk h :=
  fun r h' z => v_ldcS C hd hm hi (kk r h' z)
end QV
