section ZV2
variable {w : zW} {p : Program} {l : Launch} {e : Env} {R : Room} {s : State} {m : MethodId} {args : Array Value} {below : List Frame} {meth : Method} {c : Code} {nL cells slots : Nat} {Q : State → Prop}
variable {cc : ByteArray} {own : String} {pc : Nat} {loc : List (Option zv)} {stk : List zv} {h : zH}

theorem v_putI (C : zC w p s m args c nL cc own) {idx ci j a : Nat} {x : Int} (hd : decode cc pc = .ok (.putfield idx, 3)) (hf : zPut own idx ci j .int) (ht : zft ci j = 0)
    (kk : zV w p l e R s m args below meth c nL cells slots Q (pc + 3) loc stk (zput h a j x)) : zV w p l e R s m args below meth c nL cells slots Q pc loc (.inl x :: .inr (ci, a) :: stk) h := by
  intro H locs ls hR hS hl hk ho
  obtain ⟨hx, hb, hml, hown, hts, hK⟩ := C
  obtain ⟨hc9, Cn, T, N, ty0, f1, f2, f3, f4, f5, f6, f7, f8, f9⟩ := hf
  have hka : zwK w a = ci + 1 := zok_hd (zok_tl hk)
  have hxr : zR x := zok_hd hk
  obtain ⟨i, hi⟩ := hR.get hka (by omega)
  have hi0 := hi
  rw [zE_obj hka hc9] at hi
  refine va_put (D := zwD w) (cl := vwCl) (ci := ci) (v := .int (zi x)) (ty := .int) (C := Cn) (T := T) (N := N) hx hb hts f2 ty0 f6 f7 hown hK.1 hR.1 hR.2.1 hS i hi f1 j f3 (hts _ f5) (fun _ h9 => h9) f8 f9 rfl rfl (by rw [List.length_map, List.length_range]; omega) hd (fun H1 locs1 hP hD hS1 => ?_)
  exact kk H1 locs1 ls (zRel.step (Or.inr ⟨H, hR⟩) (by omega) hi0 hP hD (zE_put hka hc9 ht) hR.2.2.1 (zRg.put hR.2.2.2.1 hxr)) hS1 hl (zok_tl (zok_tl hk)) ho
theorem v_putZ (C : zC w p s m args c nL cc own) {idx ci j a : Nat} {x : Int} (hd : decode cc pc = .ok (.putfield idx, 3)) (hf : zPut own idx ci j .boolean) (ht : zft ci j = 0) (hz : x = 0 ∨ x = 1)
    (kk : zV w p l e R s m args below meth c nL cells slots Q (pc + 3) loc stk (zput h a j x)) : zV w p l e R s m args below meth c nL cells slots Q pc loc (.inl x :: .inr (ci, a) :: stk) h := by
  intro H locs ls hR hS hl hk ho
  obtain ⟨hx, hb, hml, hown, hts, hK⟩ := C
  obtain ⟨hc9, Cn, T, N, ty0, f1, f2, f3, f4, f5, f6, f7, f8, f9⟩ := hf
  have hka : zwK w a = ci + 1 := zok_hd (zok_tl hk)
  have hxr : zR x := zok_hd hk
  obtain ⟨i, hi⟩ := hR.get hka (by omega)
  have hi0 := hi
  rw [zE_obj hka hc9] at hi
  refine va_put (D := zwD w) (cl := vwCl) (ci := ci) (v := .int (zi x)) (ty := .boolean) (C := Cn) (T := T) (N := N) hx hb hts f2 ty0 f6 f7 hown hK.1 hR.1 hR.2.1 hS i hi f1 j f3 (hts _ f5) (fun _ h9 => h9) f8 f9 (by rcases hz with rfl | rfl <;> decide) (by rcases hz with rfl | rfl <;> decide) (by rw [List.length_map, List.length_range]; omega) hd (fun H1 locs1 hP hD hS1 => ?_)
  exact kk H1 locs1 ls (zRel.step (Or.inr ⟨H, hR⟩) (by omega) hi0 hP hD (zE_put hka hc9 ht) hR.2.2.1 (zRg.put hR.2.2.2.1 hxr)) hS1 hl (zok_tl (zok_tl hk)) ho
theorem ztys_at {k : Nat} (h9 : 9 ≤ k) (h22 : k < 22) : (ztys w)[k - 9]? = some (zwA w k, (zar k).2.2) := by
  unfold ztys
  rw [List.getElem?_map, List.getElem?_range (by omega)]
  simp only [Option.map_some, show k - 9 + 9 = k by omega]
theorem zE_putA {a k j : Nat} {x : Int} (hka : zwK w a = k + 1) (hc : 9 ≤ k) (h0 : (zar k).2.1 = 0) (h1 : (zar k).2.2 ≠ .long) : ∀ b, zE w (zput h a j x) b = va_up (zE w h) a (.inl (zwA w k, (zar k).1, .inl (upd (fun i => zi (h.1 a i)) j (zi x)))) b := by
  intro b
  by_cases hb : b = a
  · subst hb
    rw [va_up_self, zE_arr hka hc]
    congr 3
    unfold zcont
    rw [if_pos h0, if_neg h1]
    congr 1
    funext i
    by_cases hij : i = j
    · subst hij
      simp [zput, upd]
    · simp [zput, upd, hij]
  · rw [va_up_ne _ _ hb]
    unfold zE zEk
    have e1 : ∀ k, zslot k (zput h a j x) b = zslot k h b := by
      intro k
      funext i
      unfold zslot zput
      simp [hb]
    have e2 : ∀ k, zcont k (zput h a j x) b = zcont k h b := by
      intro k
      unfold zcont zput
      simp [hb]
    simp only [e1, e2]
theorem zcont_i {k : Nat} (a : Nat) (h0 : (zar k).2.1 = 0) (h1 : (zar k).2.2 ≠ .long) : zcont k h a = .inl (fun j => zi (h.1 a j)) := by
  unfold zcont
  rw [if_pos h0, if_neg h1]
theorem zcont_r {k : Nat} (a : Nat) (h0 : (zar k).2.1 ≠ 0) : zcont k h a = .inr (.inr (.inr (.inr (fun j => some (h.2 a j))))) := by
  unfold zcont
  rw [if_neg h0]
/-- an array of ints (bytes) of length n -/
def zIA (k n : Nat) (ty : FieldType) : Prop := 9 ≤ k ∧ k < 22 ∧ zar k = (n, 0, ty)

theorem v_iald (C : zC w p s m args c nL cc own) {k a n : Nat} {i : Int} (hd : decode cc pc = .ok (.iaload, 1)) (hA : zIA k n .int) (h0 : 0 ≤ i) (h1 : i < n)
    (kk : zV w p l e R s m args below meth c nL cells slots Q (pc + 1) loc (.inl (h.1 a i.toNat) :: stk) h) : zV w p l e R s m args below meth c nL cells slots Q pc loc (.inl i :: .inr (k, a) :: stk) h := by
  intro H locs ls hR hS hl hk ho
  obtain ⟨hx, hb, hml, hown, hts, hK⟩ := C
  obtain ⟨g1, g2, g3⟩ := hA
  have hka : zwK w a = k + 1 := zok_hd (zok_tl hk)
  have hir : zR i := zok_hd hk
  obtain ⟨q0, hi⟩ := hR.get hka (by omega)
  have ht := ztys_at (w := w) g1 g2
  rw [zE_arr hka g1, zcont_i a (by rw [g3]) (by rw [g3]; exact fun q => by cases q), g3] at hi
  rw [g3] at ht
  refine va_iald (f := fun j => zi (h.1 a j)) hx hb hK.1 hR.1 q0 (k - 9) hi ht (zi_in hir h0 h1) hd ?_
  rw [zi_nat hir]
  exact kk H locs ls hR hS hl (zok_cons (v := .inl (h.1 a i.toNat)) (hR.2.2.2.1 a _) (zok_tl (zok_tl hk))) ho
theorem v_bald (C : zC w p s m args c nL cc own) {k a n : Nat} {i : Int} (hd : decode cc pc = .ok (.baload, 1)) (hA : zIA k n .byte) (h0 : 0 ≤ i) (h1 : i < n)
    (kk : zV w p l e R s m args below meth c nL cells slots Q (pc + 1) loc (.inl (h.1 a i.toNat) :: stk) h) : zV w p l e R s m args below meth c nL cells slots Q pc loc (.inl i :: .inr (k, a) :: stk) h := by
  intro H locs ls hR hS hl hk ho
  obtain ⟨hx, hb, hml, hown, hts, hK⟩ := C
  obtain ⟨g1, g2, g3⟩ := hA
  have hka : zwK w a = k + 1 := zok_hd (zok_tl hk)
  have hir : zR i := zok_hd hk
  obtain ⟨q0, hi⟩ := hR.get hka (by omega)
  have ht := ztys_at (w := w) g1 g2
  rw [zE_arr hka g1, zcont_i a (by rw [g3]) (by rw [g3]; exact fun q => by cases q), g3] at hi
  rw [g3] at ht
  refine va_bald (f := fun j => zi (h.1 a j)) hx hb hK.1 hR.1 q0 (k - 9) hi ht (zi_in hir h0 h1) hd ?_
  rw [zi_nat hir]
  exact kk H locs ls hR hS hl (zok_cons (v := .inl (h.1 a i.toNat)) (hR.2.2.2.1 a _) (zok_tl (zok_tl hk))) ho
theorem v_iast (C : zC w p s m args c nL cc own) {k a n : Nat} {i x : Int} (hd : decode cc pc = .ok (.iastore, 1)) (hA : zIA k n .int) (h0 : 0 ≤ i) (h1 : i < n)
    (kk : zV w p l e R s m args below meth c nL cells slots Q (pc + 1) loc stk (zput h a i.toNat x)) : zV w p l e R s m args below meth c nL cells slots Q pc loc (.inl x :: .inl i :: .inr (k, a) :: stk) h := by
  intro H locs ls hR hS hl hk ho
  obtain ⟨hx, hb, hml, hown, hts, hK⟩ := C
  obtain ⟨g1, g2, g3⟩ := hA
  have hka : zwK w a = k + 1 := zok_hd (zok_tl (zok_tl hk))
  have hir : zR i := zok_hd (zok_tl hk)
  have hxr : zR x := zok_hd hk
  obtain ⟨q0, hi⟩ := hR.get hka (by omega)
  have hi0 := hi
  have ht := ztys_at (w := w) g1 g2
  rw [zE_arr hka g1, zcont_i a (by rw [g3]) (by rw [g3]; exact fun q => by cases q), g3] at hi
  rw [g3] at ht
  refine va_iast (f := fun j => zi (h.1 a j)) hx hb hK.1 hR.1 hR.2.1 hS q0 (k - 9) hi ht (zi_in hir h0 h1) hd (fun H1 locs1 hP hD hS1 => ?_)
  rw [zi_nat hir] at hP hD
  have hE := zE_putA (w := w) (h := h) (j := i.toNat) (x := x) hka g1 (by rw [g3]) (by rw [g3]; exact fun q => by cases q)
  rw [g3] at hE
  exact kk H1 locs1 ls (zRel.step (Or.inr ⟨H, hR⟩) (by omega) hi0 hP hD hE hR.2.2.1 (zRg.put hR.2.2.2.1 hxr)) hS1 hl (zok_tl (zok_tl (zok_tl hk))) ho
theorem v_bast (C : zC w p s m args c nL cc own) {k a n : Nat} {i x : Int} (hd : decode cc pc = .ok (.bastore, 1)) (hA : zIA k n .byte) (h0 : 0 ≤ i) (h1 : i < n) (hx8 : zi2b x = x)
    (kk : zV w p l e R s m args below meth c nL cells slots Q (pc + 1) loc stk (zput h a i.toNat x)) : zV w p l e R s m args below meth c nL cells slots Q pc loc (.inl x :: .inl i :: .inr (k, a) :: stk) h := by
  intro H locs ls hR hS hl hk ho
  obtain ⟨hx, hb, hml, hown, hts, hK⟩ := C
  obtain ⟨g1, g2, g3⟩ := hA
  have hka : zwK w a = k + 1 := zok_hd (zok_tl (zok_tl hk))
  have hir : zR i := zok_hd (zok_tl hk)
  have hxr : zR x := zok_hd hk
  obtain ⟨q0, hi⟩ := hR.get hka (by omega)
  have hi0 := hi
  have ht := ztys_at (w := w) g1 g2
  rw [zE_arr hka g1, zcont_i a (by rw [g3]) (by rw [g3]; exact fun q => by cases q), g3] at hi
  rw [g3] at ht
  refine va_bast (f := fun j => zi (h.1 a j)) hx hb hK.1 hR.1 hR.2.1 hS q0 (k - 9) hi ht (zi_in hir h0 h1) hd (fun H1 locs1 hP hD hS1 => ?_)
  have e8 : vp_nar .byte (zi x) = zi x := by
    rw [vp_nar_byte]
    have h9 : (zi x).toInt8.toInt32.toInt = x := hx8
    apply zi_ext
    rw [h9, zi_toInt hxr]
  rw [zi_nat hir, e8] at hP hD
  have hE := zE_putA (w := w) (h := h) (j := i.toNat) (x := x) hka g1 (by rw [g3]) (by rw [g3]; exact fun q => by cases q)
  rw [g3] at hE
  exact kk H1 locs1 ls (zRel.step (Or.inr ⟨H, hR⟩) (by omega) hi0 hP hD hE hR.2.2.1 (zRg.put hR.2.2.2.1 hxr)) hS1 hl (zok_tl (zok_tl (zok_tl hk))) ho
/-- an array of n references to kind k' -/
def zRA (k n k' : Nat) : Prop := 9 ≤ k ∧ k < 22 ∧ ∃ C, zar k = (n, k' + 1, .object C)
theorem v_aald (C : zC w p s m args c nL cc own) {k a n k' : Nat} {i : Int} (hd : decode cc pc = .ok (.aaload, 1)) (hA : zRA k n k') (h0 : 0 ≤ i) (h1 : i < n)
    (kk : zV w p l e R s m args below meth c nL cells slots Q (pc + 1) loc (.inr (k', h.2 a i.toNat) :: stk) h) : zV w p l e R s m args below meth c nL cells slots Q pc loc (.inl i :: .inr (k, a) :: stk) h := by
  intro H locs ls hR hS hl hk ho
  obtain ⟨hx, hb, hml, hown, hts, hK⟩ := C
  obtain ⟨g1, g2, Cn, g3⟩ := hA
  have hka : zwK w a = k + 1 := zok_hd (zok_tl hk)
  have hir : zR i := zok_hd hk
  obtain ⟨q0, hi⟩ := hR.get hka (by omega)
  have ht := ztys_at (w := w) g1 g2
  rw [zE_arr hka g1, zcont_r a (by rw [g3]; exact Nat.succ_ne_zero _), g3] at hi
  rw [g3] at ht
  have hn : zn k = n := by unfold zn; rw [if_neg (by omega), g3]
  have hf : ∀ j, zft k j = k' + 1 := by intro j; unfold zft; rw [if_neg (by omega), g3]
  have hok : zwK w (h.2 a i.toNat) = k' + 1 := by
    have h1 := hR.2.2.1 a i.toNat (by omega)
    rw [hka, Nat.add_sub_cancel, hf, hn] at h1
    exact h1 (by omega) (by omega)
  refine va_aldq (f := fun j => some (h.2 a j)) hx hb hK.1 hR.1 q0 (k - 9) hi ht (zi_in hir h0 h1) hd ?_
  rw [zi_nat hir]
  exact kk H locs ls hR hS hl (zok_cons (v := .inr (k', h.2 a i.toNat)) hok (zok_tl (zok_tl hk))) ho
theorem zE_putR {a k j v : Nat} (hka : zwK w a = k + 1) (hc : 9 ≤ k) (h0 : (zar k).2.1 ≠ 0) : ∀ b, zE w (zputR h a j v) b = va_up (zE w h) a (.inl (zwA w k, (zar k).1, .inr (.inr (.inr (.inr (va_up (fun i => some (h.2 a i)) j (some v))))))) b := by
  intro b
  by_cases hb : b = a
  · subst hb
    rw [va_up_self, zE_arr hka hc, zcont_r b h0]
    congr 7
    funext i
    by_cases hij : i = j
    · subst hij
      simp [zputR, va_up]
    · simp [zputR, va_up, hij]
  · rw [va_up_ne _ _ hb]
    unfold zE zEk
    have e1 : ∀ k, zslot k (zputR h a j v) b = zslot k h b := by
      intro k
      funext i
      unfold zslot zputR
      simp [hb]
    have e2 : ∀ k, zcont k (zputR h a j v) b = zcont k h b := by
      intro k
      unfold zcont zputR
      simp [hb]
    simp only [e1, e2]
theorem v_aast (C : zC w p s m args c nL cc own) {k a n k' v : Nat} {i : Int} (hd : decode cc pc = .ok (.aastore, 1)) (hA : zRA k n k') (hk9 : k' < 9) (hcl : ∀ C, zar k = (n, k' + 1, .object C) → ∃ r, vwCl[k']? = some r ∧ r.1 = C) (h0 : 0 ≤ i) (h1 : i < n)
    (kk : zV w p l e R s m args below meth c nL cells slots Q (pc + 1) loc stk (zputR h a i.toNat v)) : zV w p l e R s m args below meth c nL cells slots Q pc loc (.inr (k', v) :: .inl i :: .inr (k, a) :: stk) h := by
  intro H locs ls hR hS hl hk ho
  obtain ⟨hx, hb, hml, hown, hts, hK⟩ := C
  obtain ⟨g1, g2, Cn, g3⟩ := hA
  obtain ⟨r, hr1, hr2⟩ := hcl Cn g3
  have hka : zwK w a = k + 1 := zok_hd (zok_tl (zok_tl hk))
  have hkv : zwK w v = k' + 1 := zok_hd hk
  have hir : zR i := zok_hd (zok_tl hk)
  obtain ⟨q0, hi⟩ := hR.get hka (by omega)
  obtain ⟨q1, hj⟩ := hR.get hkv (by omega)
  rw [zE_obj hkv hk9] at hj
  have hi0 := hi
  have ht := ztys_at (w := w) g1 g2
  rw [zE_arr hka g1, zcont_r a (by rw [g3]; exact Nat.succ_ne_zero _), g3] at hi
  rw [g3, ← hr2] at ht
  have hn : zn k = n := by unfold zn; rw [if_neg (by omega), g3]
  have hf : ∀ j, zft k j = k' + 1 := by intro j; unfold zft; rw [if_neg (by omega), g3]
  refine va_astq (f := fun j => some (h.2 a j)) (r := r) hx hb hK.1 hR.1 hR.2.1 hS q0 (k - 9) q1 k' hi ht hj hr1 (zi_in hir h0 h1) hd (fun H1 locs1 hP hD hS1 => ?_)
  rw [zi_nat hir] at hP hD
  have hE := zE_putR (w := w) (h := h) (j := i.toNat) (v := v) hka g1 (by rw [g3]; exact Nat.succ_ne_zero _)
  rw [g3] at hE
  have hT : zTy w (zputR h a i.toNat v) := by
    intro b j hb hj hjt
    show zwK w (if b = a ∧ j = i.toNat then v else h.2 b j) = _
    split
    · rename_i hc
      rw [hc.1, hka, Nat.add_sub_cancel, hf, hkv]
    · exact hR.2.2.1 b j hb hj hjt
  exact kk H1 locs1 ls (zRel.step (Or.inr ⟨H, hR⟩) (by omega) hi0 hP hD hE hT hR.2.2.2.1) hS1 hl (zok_tl (zok_tl (zok_tl hk))) ho
/-- a contract's end, its answer and the pool behind it -/
def zQ (w : zW) (post : Option zv → zH → Prop) : Array Value → State → Outcome → State → Prop := fun _ st oc t => (∃ (r : Option zv) (h1 : zH), oc = .returned (r.map zval) ∧ post r h1 ∧ zRel w h1 t.heap ∧ ∀ v, r = some v → zok w v) ∧ va_F (zA w) st t
def zPre (w : zW) (h : zH) (U : State) : Prop := zKn w U ∧ zRel w h U.heap
def zRm (fr lo : Nat) : Room := { frames := fr, cells := 0, slots := 0, locals := lo }
/-- a method's contract: called with these values in this pool it returns, so that 'post answer pool' -/
def zCt (w : zW) (l : Launch) (y : MethodName) (b : ByteArray) (n : Nat) (ret : Option FieldType) (fr lo : Nat) (av : List zv) (h : zH) (post : Option zv → zH → Prop) : Prop :=
  (∀ v ∈ av, zok w v) → Met l y (Cond.code y b n ret :: zw_T) (zRm fr lo) (va_Pc (av.map zval) (zPre w h)) (zQ w post) 0 0 (zA w)
theorem v_iret {post : Option zv → zH → Prop} (C : zC w p s m args c nL cc own) {x : Int} (hr : meth.sig.returnType = some .int) (hlk : meth.locks = false) (hd : decode cc pc = .ok (.ireturn, 1)) (hp : post (some (.inl x)) h) : zV w p l e R s m args below meth c nL cells slots (MQ below (zQ w post) args s cells slots (zA w)) pc loc [.inl x] h := by
  intro H locs ls hR hS hl hk ho
  obtain ⟨hx, hb, hml, hown, hts, hK⟩ := C
  exact W.iret (v := zi x) hx hb hr (fun t ht hW => ⟨⟨some (.inl x), h, rfl, hp, by rw [ht]; exact hR, fun v hv => by cases hv; exact zok_hd hk⟩, hS.F ht⟩) hS.2.2 hd hlk
theorem v_zret {post : Option zv → zH → Prop} (C : zC w p s m args c nL cc own) {x : Int} (hr : meth.sig.returnType = some .boolean) (hlk : meth.locks = false) (hz : x = 0 ∨ x = 1) (hd : decode cc pc = .ok (.ireturn, 1)) (hp : post (some (.inl x)) h) : zV w p l e R s m args below meth c nL cells slots (MQ below (zQ w post) args s cells slots (zA w)) pc loc [.inl x] h := by
  intro H locs ls hR hS hl hk ho
  obtain ⟨hx, hb, hml, hown, hts, hK⟩ := C
  exact W.zret (v := zi x) (ty := .boolean) hx hb hr (by rcases hz with rfl | rfl <;> decide) (fun t ht hW => ⟨⟨some (.inl x), h, rfl, hp, by rw [ht]; exact hR, fun v hv => by cases hv; exact zok_hd hk⟩, hS.F ht⟩) hS.2.2 hd hlk
theorem v_aret {post : Option zv → zH → Prop} (C : zC w p s m args c nL cc own) {q : Nat × Nat} {Cn : String} (hr : meth.sig.returnType = some (.object Cn)) (hlk : meth.locks = false) (hd : decode cc pc = .ok (.areturn, 1)) (hp : post (some (.inr q)) h) : zV w p l e R s m args below meth c nL cells slots (MQ below (zQ w post) args s cells slots (zA w)) pc loc [.inr q] h := by
  intro H locs ls hR hS hl hk ho
  obtain ⟨hx, hb, hml, hown, hts, hK⟩ := C
  exact W.aret (v := .ref q.2) hx hb hr (Or.inl ⟨Cn, rfl⟩) (Or.inr ⟨q.2, rfl⟩) (fun t ht hW => ⟨⟨some (.inr q), h, rfl, hp, by rw [ht]; exact hR, fun v hv => by cases hv; exact zok_hd hk⟩, hS.F ht⟩) hS.2.2 hd hlk
theorem v_vret {post : Option zv → zH → Prop} (C : zC w p s m args c nL cc own) (hr : meth.sig.returnType = none) (hlk : meth.locks = false) (hd : decode cc pc = .ok (.return_, 1)) (hp : post none h) : zV w p l e R s m args below meth c nL cells slots (MQ below (zQ w post) args s cells slots (zA w)) pc loc [] h := by
  intro H locs ls hR hS hl hk ho
  obtain ⟨hx, hb, hml, hown, hts, hK⟩ := C
  exact W.vret hx hb hr (fun t ht hW => ⟨⟨none, h, rfl, hp, by rw [ht]; exact hR, fun v hv => by cases hv⟩, hS.F ht⟩) hS.2.2 hd hlk
end ZV2
