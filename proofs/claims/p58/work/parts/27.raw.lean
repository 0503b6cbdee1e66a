/-! Constructors: cells by address, each of the kind that it will have. -/
/-- the value first found at a place of kind k -/
def zdv (k j : Nat) : Value := if zft k j = 0 then (if 9 ≤ k ∧ (zar k).2.2 = .long then .long 0 else .int 0) else .null
def zvk (k : Nat) (h : zH) (b j : Nat) : Value := if zft k j = 0 then (if 9 ≤ k ∧ (zar k).2.2 = .long then .long (Int64.ofInt (h.1 b j)) else .int (zi (h.1 b j))) else .ref (h.2 b j)
def zvl (w : zW) (h : zH) (b j : Nat) : Value := zvk (zwK w b - 1) h b j
def zcell (w : zW) (k b : Nat) (V : Nat → Value) (H : Heap) : Prop := if k < 9 then t_OB b ((zwD w).1 k) (zn k) ((zwD w).2 k) H V else H[b]? = some (arrV (zwA w k) (zn k) V)
theorem zcell.to {w : zW} {k b : Nat} {V V' : Nat → Value} {H : Heap} (h : zcell w k b V H) (hv : ∀ j, j < zn k → V j = V' j) : zcell w k b V' H := by
  unfold zcell at h ⊢
  split at h
  · rename_i hk
    rw [if_pos hk]
    exact h.to hv
  · rename_i hk
    rw [if_neg hk, h]
    unfold arrV
    congr 3
    funext j
    exact hv j.1 j.2
theorem zcell.kept {w : zW} {k b : Nat} {V : Nat → Value} {H H1 : Heap} (h : zcell w k b V H) (hq : H1[b]? = H[b]?) : zcell w k b V H1 := by
  unfold zcell at h ⊢
  split at h
  · rename_i hk
    rw [if_pos hk]
    exact h.kept hq
  · rename_i hk
    rw [if_neg hk, hq, h]
/-- the cells from a to n, by the kinds of the world -/
def zRaw (w : zW) (a n : Nat) (V : Nat → Nat → Value) (H : Heap) : Prop := H.size = n ∧ ∀ b, a ≤ b → b < n → zcell w (zwK w b - 1) b (V b) H
theorem zRaw.to {w : zW} {a n : Nat} {V V' : Nat → Nat → Value} {H : Heap} (h : zRaw w a n V H) (hv : ∀ b, a ≤ b → b < n → ∀ j, j < zn (zwK w b - 1) → V b j = V' b j) : zRaw w a n V' H :=
  ⟨h.1, fun b h1 h2 => (h.2 b h1 h2).to (hv b h1 h2)⟩
/-- the classes of the arrays, by their names -/
def zAn (w : zW) (U : State) : Prop := (∀ k, 9 ≤ k → k < 22 → U.vm.findClass ("[" ++ (zar k).2.2.toString) = some (zwA w k)) ∧ va_AO RX5 U ∧ va_AO RX3 U ∧ va_AO RX0 U ∧ va_AO RX4 U ∧ ∀ q, zwU w q
theorem zAn.moved {w : zW} {u U : State} (hvm : u.vm.Alike U.vm) (h : zAn w u) : zAn w U := ⟨fun k h1 h2 => by rw [hvm.findClass]; exact h.1 k h1 h2, h.2.1.moved hvm, h.2.2.1.moved hvm, h.2.2.2.1.moved hvm, h.2.2.2.2.1.moved hvm, h.2.2.2.2.2⟩
def zset (V : Nat → Nat → Value) (b j : Nat) (v : Value) : Nat → Nat → Value := fun b' j' => if b' = b ∧ j' = j then v else V b' j'
def znew (V : Nat → Nat → Value) (n : Nat) (f : Nat → Value) : Nat → Nat → Value := fun b => if b = n then f else V b
/-- behind a constructor: the cells from q on are as they shall be -/
def zfin (w : zW) (h : zH) (q : Nat) (V : Nat → Nat → Value) : Nat → Nat → Value := fun b j => if q ≤ b then zvl w h b j else V b j
theorem vwCl_n : ∀ k, k < 9 → ∀ r, vwCl[k]? = some r → r.2.2 = zn k := by
  intro k hk r hr
  match k, hk with
  | 0, _ => cases hr; rfl
  | 1, _ => cases hr; rfl
  | 2, _ => cases hr; rfl
  | 3, _ => cases hr; rfl
  | 4, _ => cases hr; rfl
  | 5, _ => cases hr; rfl
  | 6, _ => cases hr; rfl
  | 7, _ => cases hr; rfl
  | 8, _ => cases hr; rfl
theorem vwCl_ex : ∀ k, k < 9 → ∃ r, vwCl[k]? = some r := by
  intro k hk
  match k, hk with
  | 0, _ => exact ⟨_, rfl⟩
  | 1, _ => exact ⟨_, rfl⟩
  | 2, _ => exact ⟨_, rfl⟩
  | 3, _ => exact ⟨_, rfl⟩
  | 4, _ => exact ⟨_, rfl⟩
  | 5, _ => exact ⟨_, rfl⟩
  | 6, _ => exact ⟨_, rfl⟩
  | 7, _ => exact ⟨_, rfl⟩
  | 8, _ => exact ⟨_, rfl⟩
theorem vp_V_map {n j : Nat} (f : Nat → Value) (hj : j < n) : vp_V ((List.range n).map f) j = f j := by
  unfold vp_V
  rw [List.getD_eq_getElem?_getD, List.getElem?_map, List.getElem?_range hj]
  rfl
theorem zat_to {w : zW} {h : zH} {b : Nat} {H : Heap} (hz : zcell w (zwK w b - 1) b (zvl w h b) H) : va_at (zwD w) vwCl (b, zE w h b) H := by
  unfold zE
  generalize hk : zwK w b - 1 = k at hz
  have hv : ∀ j, zvl w h b j = zvk k h b j := fun j => by unfold zvl; rw [hk]
  unfold zcell at hz
  unfold zEk
  by_cases h9 : k < 9
  · rw [if_pos h9] at hz ⊢
    obtain ⟨r, hr⟩ := vwCl_ex k h9
    refine ⟨r, hr, ?_⟩
    rw [vwCl_n k h9 r hr]
    refine hz.to fun j hj => ?_
    rw [vp_V_map _ hj, hv]
    unfold zvk zslot
    rw [if_neg (show ¬ (9 ≤ k ∧ _) from fun q => absurd q.1 (by omega))]
  · rw [if_neg h9] at hz ⊢
    show H[b]? = some (vp_cell _ _)
    rw [hz]
    have hn : zn k = (zar k).1 := by unfold zn; rw [if_neg h9]
    have hf : ∀ j, zft k j = (zar k).2.1 := fun j => by unfold zft; rw [if_neg h9]
    rw [hn]
    congr 1
    unfold zcont
    by_cases h0 : (zar k).2.1 = 0
    · by_cases h1 : (zar k).2.2 = .long
      · rw [if_pos h0, if_pos h1]
        show arrV (zwA w k) (zar k).1 (zvl w h b) = arrV (zwA w k) (zar k).1 (fun j => .long (Int64.ofInt (h.1 b j)))
        congr 1
        funext j
        rw [hv]
        unfold zvk
        rw [if_pos (by rw [hf]; exact h0), if_pos ⟨by omega, h1⟩]
      · rw [if_pos h0, if_neg h1]
        show arrV (zwA w k) (zar k).1 (zvl w h b) = arrV (zwA w k) (zar k).1 (fun j => .int (zi (h.1 b j)))
        congr 1
        funext j
        rw [hv]
        unfold zvk
        rw [if_pos (by rw [hf]; exact h0), if_neg (fun q => h1 q.2)]
    · rw [if_neg h0]
      show arrV (zwA w k) (zar k).1 (zvl w h b) = arrV (zwA w k) (zar k).1 (fun j => va_rf (some (h.2 b j)))
      congr 1
      funext j
      rw [hv]
      unfold zvk
      rw [if_neg (by rw [hf]; exact h0)]
      rfl
theorem zat_of {w : zW} {h : zH} {b : Nat} {H : Heap} (hz : va_at (zwD w) vwCl (b, zE w h b) H) : zcell w (zwK w b - 1) b (zvl w h b) H := by
  unfold zE at hz
  generalize hk : zwK w b - 1 = k at hz
  have hv : ∀ j, zvl w h b j = zvk k h b j := fun j => by unfold zvl; rw [hk]
  unfold zcell
  unfold zEk at hz
  by_cases h9 : k < 9
  · rw [if_pos h9] at hz ⊢
    obtain ⟨r, hr, ht⟩ := hz
    rw [vwCl_n k h9 r hr] at ht
    refine ht.to fun j hj => ?_
    rw [vp_V_map _ hj, hv]
    unfold zvk zslot
    rw [if_neg (show ¬ (9 ≤ k ∧ _) from fun q => absurd q.1 (by omega))]
  · rw [if_neg h9] at hz ⊢
    have hz' : H[b]? = some (vp_cell (zwA w k) ((zar k).1, zcont k h b)) := hz
    rw [hz']
    have hn : zn k = (zar k).1 := by unfold zn; rw [if_neg h9]
    have hf : ∀ j, zft k j = (zar k).2.1 := fun j => by unfold zft; rw [if_neg h9]
    rw [hn]
    congr 1
    unfold zcont
    by_cases h0 : (zar k).2.1 = 0
    · by_cases h1 : (zar k).2.2 = .long
      · rw [if_pos h0, if_pos h1]
        show arrV (zwA w k) (zar k).1 (fun j => .long (Int64.ofInt (h.1 b j))) = arrV (zwA w k) (zar k).1 (zvl w h b)
        congr 1
        funext j
        rw [hv]
        unfold zvk
        rw [if_pos (by rw [hf]; exact h0), if_pos ⟨by omega, h1⟩]
      · rw [if_pos h0, if_neg h1]
        show arrV (zwA w k) (zar k).1 (fun j => .int (zi (h.1 b j))) = arrV (zwA w k) (zar k).1 (zvl w h b)
        congr 1
        funext j
        rw [hv]
        unfold zvk
        rw [if_pos (by rw [hf]; exact h0), if_neg (fun q => h1 q.2)]
    · rw [if_neg h0]
      show arrV (zwA w k) (zar k).1 (fun j => va_rf (some (h.2 b j))) = arrV (zwA w k) (zar k).1 (zvl w h b)
      congr 1
      funext j
      rw [hv]
      unfold zvk
      rw [if_neg (by rw [hf]; exact h0)]
      rfl
/-- the pool out of the cells: the world's own are those from its base on, without a gap -/
theorem zRel.ofRaw {w : zW} {h : zH} {H : Heap} {k : Nat} (hU : ∀ q, zwU w q) (hL : zwL w = (List.range k).map (fun i => zwB w + i)) (hK : ∀ a, zwK w a ≠ 0 ∧ zwK w a ≤ 22 → zwB w ≤ a ∧ a < zwB w + k) (hT : zTy w h) (hG : zRg h)
    (hr : zRaw w (zwB w) (zwB w + k) (zvl w h) H) : zRel w h H := by
  have hget : ∀ (i : Nat) (q : Nat × va_E), ([] ++ va_pl (zwL w) (zE w h))[i]? = some q → i < k ∧ q = (zwB w + i, zE w h (zwB w + i)) := by
    intro i q hq
    rw [List.nil_append] at hq
    unfold va_pl at hq
    rw [hL, List.map_map, List.getElem?_map] at hq
    by_cases hi : i < k
    · rw [List.getElem?_range hi] at hq
      cases hq
      exact ⟨hi, rfl⟩
    · rw [List.getElem?_eq_none (by rw [List.length_range]; omega)] at hq
      cases hq
  refine ⟨fun i q hq => ?_, ⟨fun i j p q hp hq he => ?_, fun i q hq => ?_⟩, hT, hG, fun a ha => ?_⟩
  · obtain ⟨hi, rfl⟩ := hget i q hq
    exact zat_to (hr.2 _ (Nat.le_add_right _ _) (by omega))
  · obtain ⟨-, rfl⟩ := hget i p hp
    obtain ⟨-, rfl⟩ := hget j q hq
    have he' : zwB w + i = zwB w + j := he
    omega
  · obtain ⟨-, rfl⟩ := hget i q hq
    exact ⟨Nat.le_add_right _ _, hU _⟩
  · obtain ⟨h1, h2⟩ := hK a ha
    rw [hL]
    exact List.mem_map.mpr ⟨a - zwB w, List.mem_range.mpr (by omega), by omega⟩
theorem zRel.cell {w : zW} {h : zH} {H : Heap} (hR : zRel w h H) {a : Nat} (h0 : zwK w a ≠ 0) (h1 : zwK w a ≤ 22) : zcell w (zwK w a - 1) a (zvl w h a) H := by
  have hm := hR.2.2.2.2 a ⟨h0, h1⟩
  obtain ⟨i, hi⟩ := List.getElem?_of_mem hm
  refine zat_of (hR.1 i (a, zE w h a) ?_)
  rw [List.nil_append]
  unfold va_pl
  rw [List.getElem?_map, hi]
  rfl
/-- a state of a constructor's body: its object is at a, the heap's end at n -/
def zU (w : zW) (p : Program) (l : Launch) (e : Env) (R : Room) (s : State) (m : MethodId) (args : Array Value) (below : List Frame) (meth : Method) (c : Code) (nL cells slots : Nat) (Q : State → Prop) (a n pc : Nat) (loc : List (Nat × Value)) (stk : List Value) (V : Nat → Nat → Value) : Prop :=
  ∀ (H : Heap) (locs : List Loc) (ls : Array Slot), zRaw w a n V H → va_S (fun q => a ≤ q) s.heap H locs → lv_has ls nL loc → W p l e R s m args below meth c H locs cells slots Q (F0 m pc ls stk)
def zPi (w : zW) (ci a : Nat) (U : State) : Prop := zKn w U ∧ zAn w U ∧ zwB w ≤ a ∧ U.heap.size = a + 1 ∧ zcell w ci a (zdv ci) U.heap
def zQi (w : zW) (a k : Nat) (h : zH) : Array Value → State → Outcome → State → Prop := fun _ st oc t => (oc = .returned none ∧ zRaw w a (a + k) (zvl w h) t.heap) ∧ va_F (fun q => a ≤ q) st t
def zRmi (fr lo mc ms : Nat) : Room := { frames := fr, cells := mc, slots := ms, locals := lo }
/-- a constructor's contract: of the fresh object at a it makes the k cells from a on -/
def zCi (w : zW) (l : Launch) (y : MethodName) (b : ByteArray) (n fr lo mc ms ci a k : Nat) (h : zH) : Prop :=
  Met l y (Cond.code y b n none :: zw_T) (zRmi fr lo mc ms) (va_Pc [.ref a] (zPi w ci a)) (zQi w a k h) mc ms (fun q => a ≤ q)
theorem va_S.wider {A B : Nat → Prop} {H0 H : Heap} {locs : List Loc} (hAB : ∀ q, A q → B q) (h : va_S A H0 H locs) : va_S B H0 H locs := ⟨h.1, fun q h1 h2 => h.2.1 q h1 (fun z => h2 (hAB q z)), fun l hl => hAB _ (h.2.2 l hl)⟩
theorem zPi_blind {w : zW} {ci a : Nat} {av : List Value} : FrameBlind (va_Pc av (zPi w ci a)) := fun a U g mk q => ⟨q.1, zKn.same rfl rfl q.2.1, q.2.2.1.moved (Vm.Alike.refl _), q.2.2.2⟩
theorem zCi.of {w : zW} {l : Launch} {y : MethodName} {b : ByteArray} {n fr lo mc ms ci a k : Nat} {h : zH} {own : String}
    (hy : plainName y.cls = true) (hyn : y.name = "<init>") (ho : y.cls = own) (hn : 1 ≤ n) (hka : zwK w a = ci + 1)
    (body : ∀ p e s m args below meth c, zC w p s m args c n b own → zAn w s → meth.sig.returnType = none → meth.locks = false → meth.name = "<init>" → zwB w ≤ a → s.heap.size = a + 1 → zU w p l e (zRmi fr lo mc ms) s m args below meth c n 0 0 (MQ below (zQi w a k h) args s mc ms (fun q => a ≤ q)) a (a + 1) 0 [(0, .ref a)] [] (fun _ => zdv ci)) : zCi w l y b n fr lo mc ms ci a k h := by
  refine Met.ofW (cc := b) (maxL := n) (ret := none) hy rfl ?_
  intro p e s m args below meth c s₁ B hml hv
  obtain ⟨rfl, hK, hAn, hB, hsz, hz⟩ := hv
  have hts := atoms_spec (ws := Cond.code y b n none :: zw_T) B.pre
  have hown : s.vm.findClass own = some m.cls := by rw [← ho]; exact findClass_of_methodNamed B.named
  have C : zC w p s m [Value.ref a].toArray c n b own := ⟨B.exec, B.bytes, hml, hown, fun x hx => hts x (List.mem_cons_of_mem _ hx), hK⟩
  have hlen : (lg_sl [Value.ref a]).length ≤ n := hn
  have hl := lv_entry [Value.ref a] (n := n) hlen
  rw [lg_entry_eq]
  generalize (lg_sl [Value.ref a] ++ List.replicate (n - (lg_sl [Value.ref a]).length) Slot.unset).toArray = ls at hl ⊢
  refine body p e s m _ below meth c C hAn B.returns B.notSynchronized ((name_of_methodNamed B.named B.method).1.trans hyn) hB hsz s.heap [] ls ⟨hsz, fun b h1 h2 => ?_⟩ va_S.rf hl
  have hb : b = a := by omega
  subst hb
  rw [hka]
  exact hz
theorem zi_oI : Cond.instanceMethod objectInit ∈ zw_T := zmem 90 (by decide +kernel)
theorem zi_oC : Cond.code objectInit ⟨#[0xb1]⟩ 1 none ∈ zw_T := zmem 91 (by decide +kernel)
section ZU
variable {w : zW} {p : Program} {l : Launch} {e : Env} {R : Room} {s : State} {m : MethodId} {args : Array Value} {below : List Frame} {meth : Method} {c : Code} {nL cells slots : Nat} {Q : State → Prop}
variable {cc : ByteArray} {own : String} {a n pc : Nat} {loc : List (Nat × Value)} {stk : List Value} {V : Nat → Nat → Value}
theorem lv_mem {ls : Array Slot} {k : Nat} {v : Value} (h : lv_has ls nL loc) (hm : (k, v) ∈ loc) : ls[k]? = some (.val v) := h.2.2 _ hm
theorem u_aload_n (C : zC w p s m args c nL cc own) {k : Fin 4} {x : Nat} (hd : decode cc pc = .ok (.aload_n k, 1)) (hm : ((k : Nat), Value.ref x) ∈ loc) (kk : zU w p l e R s m args below meth c nL cells slots Q a n (pc + 1) loc (.ref x :: stk) V) : zU w p l e R s m args below meth c nL cells slots Q a n pc loc stk V :=
  fun H locs ls h1 h2 h3 => lv_aload_n (x := x) C.1 C.2.1 hd rfl (lv_mem h3 hm) (kk H locs ls h1 h2 h3)
theorem u_iload_n (C : zC w p s m args c nL cc own) {k : Fin 4} {x : Int32} (hd : decode cc pc = .ok (.iload_n k, 1)) (hm : ((k : Nat), Value.int x) ∈ loc) (kk : zU w p l e R s m args below meth c nL cells slots Q a n (pc + 1) loc (.int x :: stk) V) : zU w p l e R s m args below meth c nL cells slots Q a n pc loc stk V :=
  fun H locs ls h1 h2 h3 => lv_iload_n (x := x) C.1 C.2.1 hd rfl (lv_mem h3 hm) (kk H locs ls h1 h2 h3)
theorem u_iconst (C : zC w p s m args c nL cc own) {k : Int} (hd : decode cc pc = .ok (.iconst k, 1)) (kk : zU w p l e R s m args below meth c nL cells slots Q a n (pc + 1) loc (.int (zi k) :: stk) V) : zU w p l e R s m args below meth c nL cells slots Q a n pc loc stk V :=
  fun H locs ls h1 h2 h3 => lv_iconst (v := zi k) C.1 C.2.1 hd rfl (kk H locs ls h1 h2 h3)
theorem u_bipush (C : zC w p s m args c nL cc own) {k : Int} (hd : decode cc pc = .ok (.bipush k, 2)) (hv : (Int8.ofInt k).toInt32 = zi k) (kk : zU w p l e R s m args below meth c nL cells slots Q a n (pc + 2) loc (.int (zi k) :: stk) V) : zU w p l e R s m args below meth c nL cells slots Q a n pc loc stk V :=
  fun H locs ls h1 h2 h3 => lv_bipush (v := zi k) C.1 C.2.1 hd hv (kk H locs ls h1 h2 h3)
theorem u_sipush (C : zC w p s m args c nL cc own) {k : Int} (hd : decode cc pc = .ok (.sipush k, 3)) (hv : (Int16.ofInt k).toInt32 = zi k) (kk : zU w p l e R s m args below meth c nL cells slots Q a n (pc + 3) loc (.int (zi k) :: stk) V) : zU w p l e R s m args below meth c nL cells slots Q a n pc loc stk V :=
  fun H locs ls h1 h2 h3 => lv_sipush (v := zi k) C.1 C.2.1 hd hv (kk H locs ls h1 h2 h3)
theorem u_istore1 (C : zC w p s m args c nL cc own) {x x0 : Int32} {b : Nat} (hd : decode cc pc = .ok (.istore_n 1, 1)) (hn : 1 < nL) (kk : zU w p l e R s m args below meth c nL cells slots Q a n (pc + 1) [(0, .ref b), (1, .int x)] stk V) : zU w p l e R s m args below meth c nL cells slots Q a n pc [(0, .ref b), (1, .int x0)] (.int x :: stk) V :=
  fun H locs ls h1 h2 h3 => lv_istore_n (x := x) (i := 1) (lv' := [(1, .int x), (0, .ref b)]) C.1 C.2.1 hd rfl h3 hn rfl fun ls' h4 => kk H locs ls' h1 h2 (zlo_sub h4 fun q hq => by
    simp only [List.mem_cons, List.not_mem_nil, or_false] at hq ⊢
    exact hq.symm)
theorem u_istore0 (C : zC w p s m args c nL cc own) {x : Int32} {b : Nat} (hd : decode cc pc = .ok (.istore_n 1, 1)) (hn : 1 < nL) (kk : zU w p l e R s m args below meth c nL cells slots Q a n (pc + 1) [(0, .ref b), (1, .int x)] stk V) : zU w p l e R s m args below meth c nL cells slots Q a n pc [(0, .ref b)] (.int x :: stk) V :=
  fun H locs ls h1 h2 h3 => lv_istore_n (x := x) (i := 1) (lv' := [(1, .int x), (0, .ref b)]) C.1 C.2.1 hd rfl h3 hn rfl fun ls' h4 => kk H locs ls' h1 h2 (zlo_sub h4 fun q hq => by
    simp only [List.mem_cons, List.not_mem_nil, or_false] at hq ⊢
    exact hq.symm)
theorem u_iinc1 (C : zC w p s m args c nL cc own) {i b : Nat} (hi : i < 1000) (hd : decode cc pc = .ok (.iinc 1 1, 3)) (hn : 1 < nL) (kk : zU w p l e R s m args below meth c nL cells slots Q a n (pc + 3) [(0, .ref b), (1, .int (zi ((i + 1 : Nat) : Int)))] stk V) : zU w p l e R s m args below meth c nL cells slots Q a n pc [(0, .ref b), (1, .int (zi (i : Int)))] stk V :=
  fun H locs ls h1 h2 h3 => lv_iinc (v := zi ((i + 1 : Nat) : Int)) (lv' := [(1, .int (zi ((i + 1 : Nat) : Int))), (0, .ref b)]) C.1 C.2.1 hd h3 (k := 1) rfl (by
    rw [show Int32.ofInt 1 = zi 1 from rfl, zi_add, zw_id ⟨by omega, by omega⟩]; rfl) hn rfl fun ls' h4 => kk H locs ls' h1 h2 (zlo_sub h4 fun q hq => by
    simp only [List.mem_cons, List.not_mem_nil, or_false] at hq ⊢
    exact hq.symm)
theorem u_goto (C : zC w p s m args c nL cc own) {off : Int} {tgt : Nat} (hd : decode cc pc = .ok (.goto off, 3)) (ht : (pc : Int) + off = (tgt : Int)) (kk : zU w p l e R s m args below meth c nL cells slots Q a n tgt loc stk V) : zU w p l e R s m args below meth c nL cells slots Q a n pc loc stk V :=
  fun H locs ls h1 h2 h3 => lv_goto C.1 C.2.1 hd ht (kk H locs ls h1 h2 h3)
theorem u_icmp_ge (C : zC w p s m args c nL cc own) {x y : Int} {off : Int} {tgt : Nat} (hx : zR x) (hy : zR y) (hd : decode cc pc = .ok (.if_icmp .ge off, 3)) (ht : (pc : Int) + off = (tgt : Int)) (kt : y ≤ x → zU w p l e R s m args below meth c nL cells slots Q a n tgt loc stk V) (kf : x < y → zU w p l e R s m args below meth c nL cells slots Q a n (pc + 3) loc stk V) : zU w p l e R s m args below meth c nL cells slots Q a n pc loc (.int (zi y) :: .int (zi x) :: stk) V :=
  fun H locs ls h1 h2 h3 => lv_icmp_ge C.1 C.2.1 hd ht (fun q => kt (by
    exact (zi_le hy hx).mp q) H locs ls h1 h2 h3) (fun q => kf (by
    have q' : ¬ y ≤ x := fun z => q ((zi_le hy hx).mpr z)
    omega) H locs ls h1 h2 h3)
theorem u_dup (C : zC w p s m args c nL cc own) {x : Nat} (hd : decode cc pc = .ok (.dup, 1)) (kk : zU w p l e R s m args below meth c nL cells slots Q a n (pc + 1) loc (.ref x :: .ref x :: stk) V) : zU w p l e R s m args below meth c nL cells slots Q a n pc loc (.ref x :: stk) V :=
  fun H locs ls h1 h2 h3 => lv_dup (va := .ref x) C.1 C.2.1 hd rfl (kk H locs ls h1 h2 h3)
theorem u_to {V' : Nat → Nat → Value} (hv : ∀ b, a ≤ b → b < n → ∀ j, j < zn (zwK w b - 1) → V b j = V' b j) (kk : zU w p l e R s m args below meth c nL cells slots Q a n pc loc stk V') : zU w p l e R s m args below meth c nL cells slots Q a n pc loc stk V :=
  fun H locs ls h1 h2 h3 => kk H locs ls (h1.to hv) h2 h3
theorem u_objInit (C : zC w p s m args c nL cc own) {idx x : Nat} (hl : Cond.methodLink own idx objectInit ∈ zw_T) (hd : decode cc pc = .ok (.invokespecial idx, 3)) (hR : 1 ≤ R.frames ∧ (stk.map fun v => v.category).sum + 12 ≤ R.locals) (kk : zU w p l e R s m args below meth c nL cells slots Q a n (pc + 3) loc stk V) : zU w p l e R s m args below meth c nL cells slots Q a n pc loc (.ref x :: stk) V := by
  intro H locs ls h1 h2 h3
  obtain ⟨hx, hb, hml, hown, hts, hK⟩ := C
  exact W.objInit hx hb hown (hts _ hl) (hts _ zi_oI) (hts _ zi_oC) rfl (by rw [hml]; exact h3.1) rfl hd hR.1 (by
    show 2 * 0 + _ + 12 ≤ _
    omega) (kk H locs ls h1 h2 h3)
/-- a new object of ours -/
theorem u_new (C : zC w p s m args c nL cc own) {idx ci N : Nat} {Cn : String} {T : u_T} {ty0 : Nat → FieldType} (hc : vwCl[ci]? = some (Cn, T, N)) (hin : ∀ x ∈ u_ws Cn T N, x ∈ zw_T) (hN : N = zn ci) (hty : ∀ k, k < N → parseFieldDescriptor (T k).2.2.1 = some (ty0 k)) (hdv : ∀ j, j < N → defaultValue (ty0 j) = zdv ci j) (hci : ci < 9)
    (hcl : Cond.classLink own idx Cn ∈ zw_T) (hinst : Cond.instantiable Cn N ∈ zw_T) (hini : Cond.initialized Cn ∈ zw_T) (hkn : zwK w n = ci + 1) (hcs : cells + 1 ≤ R.cells ∧ slots + N ≤ R.slots) (hd : decode cc pc = .ok (.new idx, 3))
    (kk : zU w p l e R s m args below meth c nL (cells + 1) (slots + N) Q a (n + 1) (pc + 3) loc (.ref n :: stk) (znew V n (zdv ci))) : zU w p l e R s m args below meth c nL cells slots Q a n pc loc stk V := by
  intro H locs ls h1 h2 h3
  obtain ⟨hx, hb, hml, hown, hts, hK⟩ := C
  have hKn := hK.1.1 ci _ hc
  refine W.newcK hx hb hown (hts _ hcl) (hts _ hinst) (hts _ hini) rfl hd hcs.1 hcs.2 hKn.2.1 h1.1 fun H1 kC hkC e1 z1 o1 => ?_
  refine kk H1 locs ls ⟨z1, fun b hb1 hb2 => ?_⟩ ⟨by rw [z1]; exact Nat.le_trans h2.1 (by rw [h1.1]; omega), fun x q1 q2 => (o1 x (by have := h2.1; rw [h1.1] at this; omega)).trans (h2.2.1 x q1 q2), h2.2.2⟩ h3
  by_cases hbn : b = n
  · subst hbn
    rw [hkn]
    unfold zcell znew
    rw [if_pos (show ci + 1 - 1 < 9 by omega), if_pos rfl]
    have hb0 : t_OB b ((zwD w).1 ci) N ((zwD w).2 ci) H1 (fun k => defaultValue (ty0 k)) := u_born ty0 hts hin hKn hkC e1 hty
    rw [Nat.add_sub_cancel, ← hN]
    exact hb0.to hdv
  · have hz := h1.2 b hb1 (by omega)
    unfold znew
    rw [if_neg hbn]
    exact hz.kept (o1 b (by omega))
theorem zdv_arr {k j : Nat} (h9 : 9 ≤ k) (hr : (zar k).2.1 ≠ 0) : zdv k j = .null := by
  have hf : zft k j = (zar k).2.1 := by unfold zft; rw [if_neg (by omega)]
  unfold zdv
  rw [if_neg (by rw [hf]; exact hr)]
/-- a new array of numbers -/
theorem u_newI (C : zC w p s m args c nL cc own) (hAn : zAn w s) {k N : Nat} {at9 : ArrayType} (hk : 9 ≤ k ∧ k < 22) (hN : zn k = N) (hty : newarray.typeOf at9 = (zar k).2.2) (harr : Cond.arrayClass (zar k).2.2 ∈ zw_T) (hbytes : N * componentBytes (zar k).2.2 ≤ 536870912) (hNr : zR (N : Int)) (hdv : ∀ j, defaultValue (zar k).2.2 = zdv k j) (hkn : zwK w n = k + 1) (hcs : cells + 1 ≤ R.cells ∧ slots + N ≤ R.slots) (hd : decode cc pc = .ok (.newarray at9, 2))
    (kk : zU w p l e R s m args below meth c nL (cells + 1) (slots + N) Q a (n + 1) (pc + 2) loc (.ref n :: stk) (znew V n (zdv k))) : zU w p l e R s m args below meth c nL cells slots Q a n pc loc (.int (zi (N : Int)) :: stk) V := by
  intro H locs ls h1 h2 h3
  obtain ⟨hx, hb, hml, hown, hts, hK⟩ := C
  refine va_newaK (N := N) hx hb (by rw [hty]; exact hts _ harr) rfl hd rfl ?_ ?_ (by rw [hty]; exact hbytes) hcs.1 hcs.2 h1.1 fun H1 cA e1 z1 o1 _ hNm => ?_
  · rw [Int32.lt_iff_toInt_lt, zi_toInt hNr]
    show ¬ (N : Int) < 0
    omega
  · rw [zi_nat hNr]; exact Int.toNat_natCast _
  rw [hty] at e1 hNm
  have hcA : cA = zwA w k := Option.some.inj (hNm.symm.trans (hAn.1 k hk.1 hk.2))
  subst hcA
  refine kk H1 locs ls ⟨z1, fun b hb1 hb2 => ?_⟩ ⟨by rw [z1]; exact Nat.le_trans h2.1 (by rw [h1.1]; omega), fun x q1 q2 => (o1 x (by have := h2.1; rw [h1.1] at this; omega)).trans (h2.2.1 x q1 q2), h2.2.2⟩ h3
  by_cases hbn : b = n
  · subst hbn
    rw [hkn, Nat.add_sub_cancel]
    unfold zcell znew
    rw [if_neg (by omega), if_pos rfl, hN, e1]
    congr 2
    funext j
    exact hdv j
  · have hz := h1.2 b hb1 (by omega)
    unfold znew
    rw [if_neg hbn]
    exact hz.kept (o1 b (by omega))
/-- a new array of references -/
theorem u_newR (C : zC w p s m args c nL cc own) (hAn : zAn w s) {k N idx : Nat} {Cn : String} (hk : 9 ≤ k ∧ k < 22) (hN : zn k = N) (hty : (zar k).2.2 = .object Cn) (hr : (zar k).2.1 ≠ 0) (hcl : Cond.classLink own idx Cn ∈ zw_T) (hover : va_AO Cn s) (hbytes : N * 4 ≤ 536870912) (hNr : zR (N : Int)) (hkn : zwK w n = k + 1) (hcs : cells + 1 ≤ R.cells ∧ slots + N ≤ R.slots) (hd : decode cc pc = .ok (.anewarray idx, 3))
    (kk : zU w p l e R s m args below meth c nL (cells + 1) (slots + N) Q a (n + 1) (pc + 3) loc (.ref n :: stk) (znew V n (zdv k))) : zU w p l e R s m args below meth c nL cells slots Q a n pc loc (.int (zi (N : Int)) :: stk) V := by
  intro H locs ls h1 h2 h3
  obtain ⟨hx, hb, hml, hown, hts, hK⟩ := C
  have hnn : (zi (N : Int)).toNatClampNeg = N := by rw [zi_nat hNr]; exact Int.toNat_natCast _
  refine W.anew hx hb hown (hts _ hcl) (va_AO.use hover) rfl hd rfl (by
    rw [Int32.lt_iff_toInt_lt, zi_toInt hNr]
    show ¬ (N : Int) < 0
    omega) (by rw [hnn]; exact hbytes) hcs.1 (by rw [hnn]; exact hcs.2) fun cA kA comp f1 f2 f3 f4 => ?_
  rw [← hty] at f1
  have hcA : cA = zwA w k := Option.some.inj (f1.symm.trans (hAn.1 k hk.1 hk.2))
  subst hcA
  rw [hnn]
  generalize hH1 : H.push ({ cls := zwA w k, slots := Array.replicate N .null, vm := .none } : Cell) = H1
  have z1 : H1.size = n + 1 := by rw [← hH1, Array.size_push, h1.1]
  have e1 : H1[n]? = some (arrV (zwA w k) N (fun _ => .null)) := by rw [← hH1, ← h1.1, Array.getElem?_push_size, ← arrV_new]
  have o1 : ∀ q : Nat, q < n → H1[q]? = H[q]? := fun q hq => by rw [← hH1, Array.getElem?_push, if_neg (by rw [h1.1]; omega)]
  rw [h1.1]
  refine kk H1 locs ls ⟨z1, fun b hb1 hb2 => ?_⟩ ⟨by rw [z1]; exact Nat.le_trans h2.1 (by rw [h1.1]; omega), fun x q1 q2 => (o1 x (by have := h2.1; rw [h1.1] at this; omega)).trans (h2.2.1 x q1 q2), h2.2.2⟩ h3
  by_cases hbn : b = n
  · subst hbn
    rw [hkn, Nat.add_sub_cancel]
    unfold zcell znew
    rw [if_neg (by omega), if_pos rfl, hN, e1]
    congr 2
    funext j
    exact (zdv_arr hk.1 hr).symm
  · have hz := h1.2 b hb1 (by omega)
    unfold znew
    rw [if_neg hbn]
    exact hz.kept (o1 b (by omega))
/-- a field is written, in a constructor -/
def zPutA (own : String) (idx ci j : Nat) (ty : FieldType) : Prop := ∃ (Cn : String) (T : u_T) (N : Nat) (ty0 : Nat → FieldType), vwCl[ci]? = some (Cn, T, N) ∧ (∀ x ∈ u_ws Cn T N, x ∈ zw_T) ∧ j < N ∧ N = zn ci ∧ Cond.fieldLink own idx (T j).1 (T j).2.1 (T j).2.2.1 ∈ zw_T ∧ (∀ k, k < N → parseFieldDescriptor (T k).2.2.1 = some (ty0 k)) ∧ (∀ a, a < N → ∀ b, b < N → a ≠ b → (T a).2.1 ≠ (T b).2.1) ∧ parseFieldDescriptor (T j).2.2.1 = some ty ∧ ((T j).2.2.2 = false ∨ (T j).2.2.2 = true ∧ (T j).1 = own)
theorem u_put (C : zC w p s m args c nL cc own) (hin2 : meth.name = "<init>") {idx ci j b : Nat} {ty : FieldType} {v : Value} (hd : decode cc pc = .ok (.putfield idx, 3)) (hf : zPutA own idx ci j ty) (hci : ci < 9) (hkb : zwK w b = ci + 1) (hb12 : a ≤ b ∧ b < n) (hnr : narrow ty v = v) (hfit : fits ty v = true)
    (kk : zU w p l e R s m args below meth c nL cells slots Q a n (pc + 3) loc stk (zset V b j v)) : zU w p l e R s m args below meth c nL cells slots Q a n pc loc (v :: .ref b :: stk) V := by
  intro H locs ls h1 h2 h3
  obtain ⟨hx, hb, hml, hown, hts, hK⟩ := C
  obtain ⟨Cn, T, N, ty0, f1, f2, f3, f4, f5, f6, f7, f8, f9⟩ := hf
  have hz := h1.2 b hb12.1 hb12.2
  rw [hkb, Nat.add_sub_cancel] at hz
  unfold zcell at hz
  rw [if_pos hci, ← f4] at hz
  obtain ⟨cell, q1, q2, q3, q4⟩ := hz
  have hap := va_apart (own := own) hts f2 ty0 f6 f7 hK.1 f1
  obtain ⟨hS, hfc, kC, hkC, hkind⟩ := hK.1.1 ci _ f1
  obtain ⟨cf, kf, fi, f, hi, hsl⟩ := hS j f3
  have hlay := u_lays hts f2 f3
  have hst := (u_facts hfc hkC hlay hi).1
  have fin : ∀ H' : Heap, H'[b]? = some (cell.setSlot f.slot v) → H'.size = H.size → (∀ q, q ≠ b → H'[q]? = H[q]?) → W p l e R s m args below meth c H' (locs ++ [⟨b, f.slot⟩]) cells slots Q (F0 m (pc + 3) ls stk) := fun H' e1 e2 e3 => by
    rw [hsl] at e1
    refine kk H' _ ls ⟨by rw [e2]; exact h1.1, fun b' hb1 hb2 => ?_⟩ (h2.put e2 e3 hb12.1) h3
    by_cases hbb : b' = b
    · subst hbb
      rw [hkb, Nat.add_sub_cancel]
      unfold zcell
      rw [if_pos hci, ← f4]
      have ht : t_OB b' ((zwD w).1 ci) N ((zwD w).2 ci) H' (updV (V b') j v) := ⟨_, e1, q2, q3, t_set q4 hap f3 v⟩
      refine ht.to fun j' _ => ?_
      unfold updV zset
      by_cases hj : j' = j
      · rw [if_pos hj, if_pos ⟨rfl, hj⟩]
      · rw [if_neg hj, if_neg (fun q => hj q.2)]
    · refine ((h1.2 b' hb1 hb2).kept (e3 b' hbb)).to fun j' _ => ?_
      unfold zset
      rw [if_neg (fun q => hbb q.1)]
  rcases f9 with hff | ⟨hff, hdecl⟩
  · have hlay2 := hts _ (f2 _ (u_in_lay f3))
    unfold u_lay at hlay2
    rw [if_neg (by rw [hff]; decide)] at hlay2
    have h6 := u_store hfc hkC hkind hlay2 hi f8 hnr hfit
    refine W.putK hx hb (f := f) ⟨hown, hts _ f5, ⟨_, _, _, hi⟩, hst⟩ (by rw [q2]; exact h6) q1 q3 (by rw [hsl]; exact k2_hasslot (q4 j f3)) rfl rfl hd fin
  · have hlay2 := hts _ (f2 _ (u_in_lay f3))
    unfold u_lay at hlay2
    rw [if_pos hff] at hlay2
    have hcf : m.cls = cf := by
      obtain ⟨_, _, c', _, _, _, -, -, hf', -, -, -, hown2, -⟩ := Cond.laysFinal_spec hlay2
      have e1 : c' = cf := by have := hi.symm.trans hf'; simp at this; exact this.1.symm
      rw [hdecl] at hown2
      rw [← e1]; exact Option.some.inj (hown.symm.trans hown2)
    have h6 := u_fits hfc hkC hkind (Or.inr hlay2) hi f8 hnr hfit
    exact W.putFinK hx hb hown (hts _ f5) hi hst hcf hin2 (by rw [q2]; exact h6) q1 q3 (by rw [hsl]; exact k2_hasslot (q4 j f3)) rfl rfl hd fin
/-- a reference field is read -/
theorem u_get (C : zC w p s m args c nL cc own) {idx ci j b x : Nat} (hd : decode cc pc = .ok (.getfield idx, 3)) (hf : zFld own idx ci j) (hkb : zwK w b = ci + 1) (hb12 : a ≤ b ∧ b < n) (hv : V b j = .ref x)
    (kk : zU w p l e R s m args below meth c nL cells slots Q a n (pc + 3) loc (.ref x :: stk) V) : zU w p l e R s m args below meth c nL cells slots Q a n pc loc (.ref b :: stk) V := by
  intro H locs ls h1 h2 h3
  obtain ⟨hx, hb, hml, hown, hts, hK⟩ := C
  obtain ⟨hci, Cn, T, N, f1, f2, f3, f4, f5⟩ := hf
  have hz := h1.2 b hb12.1 hb12.2
  rw [hkb, Nat.add_sub_cancel] at hz
  unfold zcell at hz
  rw [if_pos hci, ← f4] at hz
  have hat : va_P (zwD w) vwCl [(b, .inr (ci, (List.range N).map (V b)))] H := by
    intro k q hq
    have hk0 : k = 0 := by
      have := (List.getElem?_eq_some_iff.mp hq).1
      simp at this
      exact this
    subst hk0
    cases hq
    exact ⟨_, f1, hz.to fun j hj => (vp_V_map _ hj).symm⟩
  refine va_get (D := zwD w) (cl := vwCl) (ws := [(b, .inr (ci, (List.range N).map (V b)))]) (ci := ci) (v := .ref x) (C := Cn) (T := T) (N := N) hx hb hts f2 hown hK.1 hat 0 rfl f1 j f3 (hts _ f5) (fun _ h9 => h9) ?_ hd (kk H locs ls h1 h2 h3)
  rw [List.getElem?_map, List.getElem?_range f3]
  exact congrArg some hv
/-- a reference is laid into an array -/
theorem u_aast (C : zC w p s m args c nL cc own) {k i N b q ci : Nat} {Cn : String} (hk : 9 ≤ k ∧ k < 22) (hty : (zar k).2.2 = .object Cn) (hn : zn k = N) (hi : i < N) (hiR : N ≤ 1000) (hkb : zwK w b = k + 1) (hkq : zwK w q = ci + 1) (hci : ci < 9) (hCn : ∃ T N, vwCl[ci]? = some (Cn, T, N)) (hb12 : a ≤ b ∧ b < n) (hq12 : a ≤ q ∧ q < n) (hd : decode cc pc = .ok (.aastore, 1))
    (kk : zU w p l e R s m args below meth c nL cells slots Q a n (pc + 1) loc stk (zset V b i (.ref q))) : zU w p l e R s m args below meth c nL cells slots Q a n pc loc (.ref q :: .int (zi (i : Int)) :: .ref b :: stk) V := by
  intro H locs ls h1 h2 h3
  obtain ⟨hx, hb, hml, hown, hts, hK⟩ := C
  obtain ⟨T, M, hc⟩ := hCn
  have hz := h1.2 b hb12.1 hb12.2
  rw [hkb, Nat.add_sub_cancel] at hz
  unfold zcell at hz
  rw [if_neg (by omega), hn] at hz
  have hzq := h1.2 q hq12.1 hq12.2
  rw [hkq, Nat.add_sub_cancel] at hzq
  unfold zcell at hzq
  rw [if_pos hci] at hzq
  obtain ⟨cellV, g1, g2, g3, -⟩ := hzq
  have hcls := (hK.1.1 ci _ hc).2
  have ht := ztys_at (w := w) hk.1 hk.2
  rw [hty] at ht
  obtain ⟨kA, comp, k1, k2, k3, -⟩ := (hK.1.2 (k - 9) _ ht).2
  have hcomp : comp = (zwD w).1 ci := Option.some.inj (k3.symm.trans hcls.1)
  subst hcomp
  obtain ⟨kC, hkC, -⟩ := hcls.2
  have hir : zR (i : Int) := ⟨by omega, by omega⟩
  have hin : (zi (i : Int)).toNatClampNeg = i := by rw [zi_nat hir]; exact Int.toNat_natCast _
  refine W.aast hx hb hz (fun q h => by cases h) (fun h => by cases h) k1 k2 rfl hkC ⟨?_, by show _ < (arrV _ _ _).slots.size; rw [arrV_size, hin]; exact hi⟩ g1 (fun q h => by rw [g3] at h; cases h) (by rw [g2]; exact hkC) (by rw [g2]; exact va_assign hcls) rfl rfl hd fun H1 e z oq => ?_
  · rw [Int32.lt_iff_toInt_lt, zi_toInt hir]
    show ¬ (i : Int) < 0
    omega
  refine kk H1 _ ls ⟨by rw [z]; exact h1.1, fun b' hb1 hb2 => ?_⟩ (h2.put z oq hb12.1) h3
  by_cases hbb : b' = b
  · subst hbb
    rw [hkb, Nat.add_sub_cancel]
    unfold zcell
    rw [if_neg (by omega), hn, e, hin, arrV_store]
    congr 2
    funext j'
    unfold updV zset
    by_cases hj : j' = i
    · rw [if_pos hj, if_pos ⟨rfl, hj⟩]
    · rw [if_neg hj, if_neg (fun q => hj q.2)]
  · refine ((h1.2 b' hb1 hb2).kept (oq b' hbb)).to fun j' _ => ?_
    unfold zset
    rw [if_neg (fun q => hbb q.1)]
/-- behind a constructor's call -/
theorem u_called {fr lo mc ms ci q k N : Nat} {y : MethodName} {b : ByteArray} {h : zH} (hq : n = q + 1) (haq : a ≤ q)
    (hr : ∀ (H : Heap) (locs : List Loc) (ls : Array Slot), zRaw w a n V H → va_S (fun q => a ≤ q) s.heap H locs → lv_has ls nL loc → va_Run p l e R s m args below meth c H locs cells slots mc ms (F0 m pc ls (.ref q :: stk)) stk (zQi w q k h #[.ref q]) (fun x => q ≤ x))
    (kk : zU w p l e R s m args below meth c nL (cells + mc) (slots + ms) Q a (q + k) (pc + 3) loc stk (zfin w h q V)) : zU w p l e R s m args below meth c nL cells slots Q a n pc loc (.ref q :: stk) V := by
  intro H locs ls h1 h2 h3 T hT X
  obtain ⟨v, st₀, t, T', L, h0, X', hL, e1, e2, ⟨⟨hv, hraw⟩, hz, hkeep⟩, st⟩ := hr H locs ls h1 h2 h3 T hT X
  cases hv
  rw [h0] at hz hkeep
  have hraw2 : zRaw w a (q + k) (zfin w h q V) T'.heap := by
    refine ⟨by rw [e1]; exact hraw.1, fun b' hb1 hb2 => ?_⟩
    by_cases hqb : q ≤ b'
    · rw [e1]
      refine (hraw.2 b' hqb hb2).to fun j _ => ?_
      unfold zfin
      rw [if_pos hqb]
    · have hz2 := h1.2 b' hb1 (by omega)
      refine (hz2.kept (by rw [e1]; exact hkeep b' (by rw [h1.1]; omega) hqb)).to fun j _ => ?_
      unfold zfin
      rw [if_neg hqb]
  obtain ⟨t2, a1, b1⟩ := kk T'.heap (locs ++ L) ls hraw2
    ⟨by rw [e1]; exact Nat.le_trans h2.1 hz, fun x q1 q2 => by
      have hxa : x < a := Nat.lt_of_not_le q2
      rw [e1, hkeep x (Nat.lt_of_lt_of_le q1 h2.1) (Nat.not_le.mpr (by omega))]
      exact h2.2.1 x q1 q2, fun x hx => by
      rcases List.mem_append.mp hx with h | h
      · exact h2.2.2 x h
      · exact Nat.le_trans haq (hL x h)⟩ h3 T' rfl X'
  exact ⟨t2, st t2 a1, b1⟩
theorem zPi_pre (C : zC w p s m args c nL cc own) (hAn : zAn w s) (hB : zwB w ≤ a) {q ci : Nat} (haq : a ≤ q) (hq : n = q + 1) (hkq : zwK w q = ci + 1) (hVq : ∀ j, V q j = zdv ci j) {H : Heap} {locs : List Loc} (h1 : zRaw w a n V H) (h2 : va_S (fun q => a ≤ q) s.heap H locs) :
    ∀ U : State, U.heap = H → s.WarmedH U.vm → va_Pc [.ref q] (zPi w ci q) (Value.ref q :: ([] : List Value)).toArray U := by
  intro U hU hW
  obtain ⟨hx, hb, hml, hown, hts, hK⟩ := C
  have h2' : va_S (zA w) s.heap H locs := va_S.wider (fun x hx => ⟨Nat.le_trans hB hx, hAn.2.2.2.2.2 x⟩) h2
  refine ⟨rfl, zKn.warm hW h2' hU hK, hAn.moved hW.alike, Nat.le_trans hB haq, by rw [hU, h1.1, hq], ?_⟩
  have hz := h1.2 q haq (by omega)
  rw [hkq, Nat.add_sub_cancel] at hz
  rw [hU]
  exact hz.to fun j _ => hVq j
/-- a constructor of ours is called -/
theorem u_callI (C : zC w p s m args c nL cc own) (hAn : zAn w s) (hB : zwB w ≤ a) {idx fr lo mc ms ci q k N : Nat} {y : MethodName} {b : ByteArray} {h : zH} (hyn : y.name = "<init>") (hd : decode cc pc = .ok (.invokespecial idx, 3)) (hl : Cond.methodLink own idx y ∈ zw_T) (hin : Cond.instanceMethod y ∈ zw_T) (hini : Cond.initialized y.cls ∈ zw_T) (hcode : Cond.code y b N none ∈ zw_T) (hcls : y.cls ≠ "java/lang/invoke/MethodHandle" ∧ y.cls ≠ "java/lang/invoke/VarHandle") (hpar : (parseMethodDescriptor y.desc).map (fun d => d.parameters.length) = some 0)
    (hM : zCi w l y b N fr lo mc ms ci q k h) (hq : n = q + 1) (haq : a ≤ q) (hkq : zwK w q = ci + 1) (hVq : ∀ j, V q j = zdv ci j) (hR : fr + 1 ≤ R.frames ∧ 8 + (N + 11) + lo ≤ R.locals) (hcs : cells + mc ≤ R.cells ∧ slots + ms ≤ R.slots) (h8 : (stk.map fun v => v.category).sum ≤ 8)
    (kk : zU w p l e R s m args below meth c nL (cells + mc) (slots + ms) Q a (q + k) (pc + 3) loc stk (zfin w h q V)) : zU w p l e R s m args below meth c nL cells slots Q a n pc loc (.ref q :: stk) V := by
  refine u_called (fr := fr) (lo := lo) (ci := ci) (N := N) (y := y) (b := b) hq haq (fun H locs ls h1 h2 h3 => ?_) kk
  have hpre := zPi_pre (ci := ci) C hAn hB haq hq hkq hVq h1 h2
  obtain ⟨hx, hb, hml, hown, hts, hK⟩ := C
  have hcall : CallB R s args own idx y b N none (Cond.code y b N none :: zw_T) (zRmi fr lo mc ms) mc ms 0 ∧ y.name = "<init>" ∧ (Cond.instanceMethod y).before args s = true :=
    ⟨callB_of 0 hts (zw_good_ws hcode) rfl rfl rfl (hts _ hini) (hts _ hl) ⟨hcls.1, hcls.2, hpar⟩ hR, hyn, hts _ hin⟩
  exact va_runI (p := p) (l := l) (e := e) (R := R) (below := below) (meth := meth) (H := H) (locs := locs) (cells := cells) (slots := slots) (b := q) (As := []) (rest := stk) (g := F0 m pc ls (.ref q :: stk)) ⟨hx, hb, hml, hown, hts⟩ hM hcall
    ⟨zPi_blind, hpre⟩ rfl rfl h3.1 rfl (lv_room h8) hd hcs
theorem u_callN (C : zC w p s m args c nL cc own) (hAn : zAn w s) (hB : zwB w ≤ a) {idx fr lo mc ms ci q k N : Nat} {y : MethodName} {host : String} {b : ByteArray} {h : zH} (hyn : y.name = "<init>") (hd : decode cc pc = .ok (.invokespecial idx, 3)) (hl : (own, idx, y, host) ∈ zw_NM) (hin : Cond.instanceMethod y ∈ zw_T) (hini : Cond.initialized y.cls ∈ zw_T) (hcode : Cond.code y b N none ∈ zw_T) (hcls : y.cls ≠ "java/lang/invoke/MethodHandle" ∧ y.cls ≠ "java/lang/invoke/VarHandle") (hpar : (parseMethodDescriptor y.desc).map (fun d => d.parameters.length) = some 0)
    (hM : zCi w l y b N fr lo mc ms ci q k h) (hq : n = q + 1) (haq : a ≤ q) (hkq : zwK w q = ci + 1) (hVq : ∀ j, V q j = zdv ci j) (hR : fr + 1 ≤ R.frames ∧ 8 + (N + 11) + lo ≤ R.locals) (hcs : cells + mc ≤ R.cells ∧ slots + ms ≤ R.slots) (h8 : (stk.map fun v => v.category).sum ≤ 8)
    (kk : zU w p l e R s m args below meth c nL (cells + mc) (slots + ms) Q a (q + k) (pc + 3) loc stk (zfin w h q V)) : zU w p l e R s m args below meth c nL cells slots Q a n pc loc (.ref q :: stk) V := by
  refine u_called (fr := fr) (lo := lo) (ci := ci) (N := N) (y := y) (b := b) hq haq (fun H locs ls h1 h2 h3 => ?_) kk
  have hpre := zPi_pre (ci := ci) C hAn hB haq hq hkq hVq h1 h2
  obtain ⟨hx, hb, hml, hown, hts, hK⟩ := C
  have hcall := va_cnB (R := R) (args := args) (mc := mc) (ms := ms) (rm := zRmi fr lo mc ms) (ws := Cond.code y b N none :: zw_T) 0 hts (zw_good_ws hcode) rfl rfl rfl (hK.2.1.1 _ hl) (hts _ hini) ⟨hcls.1, hcls.2, hpar⟩ hR
  exact va_runIN (p := p) (l := l) (e := e) (R := R) (below := below) (meth := meth) (H := H) (locs := locs) (cells := cells) (slots := slots) (b := q) (As := []) (rest := stk) (g := F0 m pc ls (.ref q :: stk)) ⟨hx, hb, hml, hown, hts⟩ hM ⟨hcall, hyn, hts _ hin⟩
    ⟨zPi_blind, hpre⟩ rfl rfl h3.1 rfl (lv_room h8) hd hcs
theorem u_ret {h : zH} {k mc ms : Nat} (C : zC w p s m args c nL cc own) (hr : meth.sig.returnType = none) (hlk : meth.locks = false) (hc : cells ≤ mc) (hs : slots ≤ ms) (hn : n = a + k) (hd : decode cc pc = .ok (.return_, 1)) (hv : ∀ b, a ≤ b → b < n → ∀ j, j < zn (zwK w b - 1) → V b j = zvl w h b j) :
    zU w p l e R s m args below meth c nL cells slots (MQ below (zQi w a k h) args s mc ms (fun q => a ≤ q)) a n pc loc [] V := by
  intro H locs ls h1 h2 h3
  obtain ⟨hx, hb, hml, hown, hts, hK⟩ := C
  refine W.widen hc hs (W.vret hx hb hr (fun t ht hW => ⟨⟨rfl, ?_⟩, h2.F ht⟩) h2.2.2 hd hlk)
  rw [ht, ← hn]
  exact h1.to hv
end ZU
