/-! The exchange's own cells beside texts; the law's put. -/
/-- the pool of the world wp, as cells -/
def PL (wp : zW) (h : zH) : va_W := va_pl (zwL wp) (zE wp h)
def yPool (w wp : zW) (B : Nat) : Prop := zwD wp = zwD w ∧ (∀ U : State, B < U.heap.size → yKn w U → zKn wp U) ∧ (∀ q, zA wp q → zA w q) ∧ (∀ a, a ∈ zwL wp ↔ zA wp a) ∧ (∀ a, zwK wp a ≠ 0 ∧ zwK wp a ≤ 22 → a ∈ zwL wp) ∧ zwK wp B = 8
theorem PL_rel {w wp : zW} {B : Nat} (P : yPool w wp B) {h : zH} {H : Heap} (hT : zTy wp h) (hG : zRg h) (hR : yL w (PL wp h) H) : zRel wp h H := by
  refine ⟨?_, ⟨hR.2.1, fun k q hq => ?_⟩, hT, hG, P.2.2.2.2.1⟩
  · rw [P.1]
    exact hR.1
  · obtain ⟨a, ha, he⟩ := List.mem_map.mp (List.mem_of_getElem? hq)
    rw [← he]
    exact (P.2.2.2.1 a).mp ha
theorem PL_of {w wp : zW} {B : Nat} (P : yPool w wp B) {h : zH} {H : Heap} (hR : zRel wp h H) : yL wp (PL wp h) H := ⟨hR.1, hR.2.1⟩
/-- a text t at q, told by the cells strs or by the world -/
def yProv (w : zW) (s : State) (strs : va_W) (q qa : Nat) (t : List Int32) : Prop := ∀ (pre : va_W) (H : Heap) (locs : List Loc) (A : Nat → Prop), yL w (pre ++ strs) H → va_S (zA w) s.heap H locs → (∀ a, A a → (∃ (k : Nat) (e : va_E), pre[k]? = some (a, e)) ∨ H.size ≤ a) → yT q qa t A s H
section YP
variable {w wc wp : zW} {p : Program} {l : Launch} {e : Env} {R : Room} {s : State} {m : MethodId} {args : Array Value} {below : List Frame} {meth : Method} {c : Code} {nL cells slots : Nat} {Q : State → Prop}
variable {cc : ByteArray} {own : String} {pc : Nat} {loc : List (Option zv)} {stk : List zv} {G : Heap → Prop} {ws : va_W}
theorem yProv_const (C : zC w p s m args c nL cc own) (hN0 : ∀ q, s.heap.size ≤ q → zA w q) {strs : va_W} : yProv w s strs (zwS w 31) (zwS w 71) (zwTl w) := fun pre H locs A hG hS hA => by
  have h1 := C.2.2.2.2.2.2.2.1.2.2.2.2.2.2.2.2.2.1.2
  refine (vk_S.kept h1 (fun a g1 g2 => hS.2.1 a g1 g2)).narrow fun a ha => ?_
  rcases hA a ha with ⟨k, e9, hk⟩ | h9
  · exact hG.2.2 k (a, e9) (by rw [List.getElem?_append_left (List.getElem?_eq_some_iff.mp hk).1]; exact hk)
  · exact hN0 a (Nat.le_trans hS.1 h9)
theorem yProv_dyn (C : zC w p s m args c nL cc own) {q qa n : Nat} {t : List Int32} {g : Nat → Int32} {strs : va_W} (hn : n = t.length) (hg : yHs t g) : yProv w s (yStr w q qa n g ++ strs) q qa t := fun pre H locs A hG hS hA => by
  subst hn
  have h1 : (pre ++ (yStr w q qa t.length g ++ strs))[pre.length]? = some (q, .inr (9, [zval (.inr (14, qa)), zval (.inl 0), zval (.inl 0), zval (.inl 0)])) := by
    rw [List.getElem?_append_right (Nat.le_refl _), Nat.sub_self]
    rfl
  have h2 : (pre ++ (yStr w q qa t.length g ++ strs))[pre.length + 1]? = some (qa, .inl (zwA w 14, t.length, .inl g)) := by
    rw [List.getElem?_append_right (by omega), Nat.add_sub_cancel_left]
    rfl
  refine yT_of C hG h1 h2 hg.2 (fun z => ?_) (fun z => ?_)
  · rcases hA _ z with ⟨k, e9, hk⟩ | h9
    · have hlt := (List.getElem?_eq_some_iff.mp hk).1
      have := hG.2.1 pre.length k _ (q, e9) h1 (by rw [List.getElem?_append_left hlt]; exact hk) rfl
      omega
    · exact absurd h9 (Nat.not_le.mpr (hG.1 _ _ h1).lt)
  · rcases hA _ z with ⟨k, e9, hk⟩ | h9
    · have hlt := (List.getElem?_eq_some_iff.mp hk).1
      have := hG.2.1 (pre.length + 1) k _ (qa, e9) h2 (by rw [List.getElem?_append_left hlt]; exact hk) rfl
      omega
    · exact absurd h9 (Nat.not_le.mpr (hG.1 _ _ h2).lt)
theorem y_apP (C : zC w p s m args c nL cc own) (hX : yX w s s.heap) (hN0 : ∀ q, s.heap.size ≤ q → zA w q) {idx b q qa kq : Nat} {T u : List Int32} {strs : va_W} {rest : List zv} (hp : yProv w s strs q qa u) (hd : decode cc pc = .ok (.invokevirtual idx, 3)) (hm : yMV own idx yJ4_append_15ec4 cJ4_append_15ec4 2 (some (.object "java/lang/StringBuilder")) 1)
    (hu : yOk u) (hl9 : T.length + u.length ≤ 1500) (hR : 6 ≤ R.frames ∧ 8 + (2 + 11) + 190 ≤ R.locals) (hcs : cells + 1 ≤ R.cells ∧ slots + 3000 ≤ R.slots) (hk8 : rest.length ≤ 8)
    (kk : yS w p l e R s m args below meth c nL (cells + 1) (slots + 3000) Q (pc + 3) loc (.inr (8, b) :: rest) (yBS w b (T ++ u) strs)) : yS w p l e R s m args below meth c nL cells slots Q pc loc (.inr (kq, q) :: .inr (8, b) :: rest) (yBS w b T strs) :=
  y_apS (qa := qa) C hX hN0 hd hm hu hl9 (fun H locs da m0 f hG hS => hp (yW w b da m0 T.length f) H locs _ hG hS fun a ha => by
    rcases ha with rfl | rfl | h
    · exact Or.inl ⟨0, _, rfl⟩
    · exact Or.inl ⟨1, _, rfl⟩
    · exact Or.inr h) hR hcs hk8 kk
theorem zPt_rel {q qa : Nat} {t : List Int32} {U : Nat → Prop} {H : Heap} : zRel (zPt w U q qa t) zH0 H := by
  have K : ∀ a, zwK (zPt w U q qa t) a ≠ 0 → zwK (zPt w U q qa t) a = 31 := fun a h => by
    have e : zwK (zPt w U q qa t) a = if zwK w a = 31 ∨ a = q ∨ a = qa then 31 else 0 := rfl
    rw [e] at h ⊢
    split at h
    · rw [if_pos ‹_›]
    · exact absurd rfl h
  refine ⟨fun k q h => by simp [va_pl, zwL, zPt] at h, ⟨fun i j p q h => by simp [va_pl, zwL, zPt] at h, fun k q h => by simp [va_pl, zwL, zPt] at h⟩, fun a j h0 h1 => ?_, fun a j => ⟨show (-2147483648 : Int) ≤ 0 by decide, show (0 : Int) < 2147483648 by decide⟩, fun a h => ?_⟩
  · rw [K a h0] at h1
    exact absurd h1 (by decide +revert)
  · have := K a h.1
    omega
/-- a pure method of a text among the cells -/
theorem y_pureD (C : zC w p s m args c nL cc own) (hX : yX w s s.heap) {idx n k fr lo q qa kq : Nat} {t : List Int32} {strs : va_W} {y : MethodName} {b : ByteArray} {ret : Option FieldType} {As rest : List zv} {v : zv} (hp : yProv w s strs q qa t) (hu : yOk t) (hd : decode cc pc = .ok (.invokevirtual idx, 3)) (hm : zMT own idx y b n ret k)
    (hc : zCt (zPt w yF q qa t) l y b n ret fr lo (.inr (30, q) :: As) zH0 (zFn (some v) zH0)) (hAs : ∀ u ∈ As, ∃ x, u = .inl x) (hs : stk = As.reverse ++ .inr (kq, q) :: rest) (hR : fr + 1 ≤ R.frames ∧ 8 + (n + 11) + lo ≤ R.locals) (hcs : cells ≤ R.cells ∧ slots ≤ R.slots) (hk8 : As.length = k ∧ rest.length ≤ 8) (hv : yok v)
    {a : va_W} (kk : yS w p l e R s m args below meth c nL cells slots Q (pc + 3) loc (v :: rest) (yL w (a ++ strs))) : yS w p l e R s m args below meth c nL cells slots Q pc loc stk (yL w (a ++ strs)) := by
  have C0 := C
  obtain ⟨hx, hb, hml, hown, hts, hK⟩ := C
  obtain ⟨m0, m2, m3, m4, m5, m6, m7, m8⟩ := hm
  intro H locs ls hR1 hS hl hk ho T hT X
  have hT9 := hp a H locs yF hR1 hS (fun _ h => absurd h id)
  have hka : zwK (zPt w yF q qa t) q = 30 + 1 := if_pos (Or.inr (Or.inl rfl))
  have hM := hc (fun u hu => by
    rcases List.mem_cons.mp hu with rfl | hu
    · exact hka
    · obtain ⟨x, rfl⟩ := hAs u hu
      exact hk _ (by rw [hs]; exact List.mem_append_left _ (List.mem_reverse.mpr hu)))
  have hcall : CallW R s args own y.cls idx y b n ret (Cond.code y b n ret :: zw_T) (zRm fr lo) 0 0 k :=
    ⟨callB_of k hts (zw_good_ws m6) rfl rfl rfl (hts _ m5) (hts _ m2) ⟨m7.1, m7.2, m8⟩ hR, hts _ m3, hts _ m4⟩
  have hrec : ∃ cellB : Cell, H[q]? = some cellB ∧ cellB.vm.isStatics = false ∧ s.vm.findClass y.cls = some cellB.cls := by
    obtain ⟨cell, g1, g2, g3, -⟩ := (hT9.1 0 Nat.zero_lt_one).1
    exact ⟨cell, g1, g2, by rw [m0]; exact g3⟩
  have hr := va_runV (p := p) (l := l) (e := e) (R := R) (below := below) (meth := meth) (H := H) (locs := locs) (cells := cells) (slots := slots) (b := q) (As := As.map zval) (rest := rest.map zval) (g := F0 m pc ls (stk.map zval)) (C := y.cls) ⟨hx, hb, hml, hown, hts⟩ hM hcall
    ⟨zPre_blind, hrec, fun U hU hW => ⟨rfl, (zPt_Kn (fun _ h => absurd h id) hu (by rw [hU]; exact vk_S.moved hW.alike hT9) (yKn.warm hW hS hU ⟨hK, hX⟩)).1, zPt_rel⟩⟩ rfl (by rw [List.length_map]; exact hk8.1) hl.1 (by
      show stk.map zval = _
      rw [hs, List.map_append, List.map_reverse]
      rfl) (lv_room (by rw [zsum_len]; exact hk8.2)) hd ⟨by simpa using hcs.1, by simpa using hcs.2⟩
  obtain ⟨v9, st₀, t9, T', L, h0, X', hL, e1, e2, ⟨⟨r, h1, hv9, ⟨hr1, -⟩, -, -⟩, hz, hkeep⟩, st⟩ := hr T hT X
  cases hv9
  subst hr1
  rw [h0] at hz hkeep
  have hkp : ∀ q, q < H.size → T'.heap[q]? = H[q]? := fun q hq => by rw [e1]; exact hkeep q hq (fun z => z.2)
  obtain ⟨t2, a1, b1⟩ := kk T'.heap (locs ++ L) ls (yL_stab H _ hR1 (by rw [e1]; exact hz) hkp)
    ⟨Nat.le_trans hS.1 (by rw [e1]; exact hz), fun q h1 h2 => by rw [hkp q (Nat.lt_of_lt_of_le h1 hS.1)]; exact hS.2.1 q h1 h2, fun q hq => by
      rcases List.mem_append.mp hq with h | h
      · exact hS.2.2 q h
      · exact absurd (hL q h).2 id⟩ hl (yok_cons hv fun u hu => hk u (by rw [hs]; exact List.mem_append_right _ (List.mem_cons_of_mem _ hu))) ho T' rfl X'
  exact ⟨t2, st t2 a1, b1⟩
/-- a method of the exchange's -/
theorem y_callZ (C : zC w p s m args c nL cc own) (hX : yX w s s.heap) {B : Nat} (P : yPool w wp B) {h h1 : zH} (hTy : zTy wp h) (hRg : zRg h) {idx n k fr lo : Nat} {y : MethodName} {b : ByteArray} {ret : Option FieldType} {As rest : List zv} {v : zv} {a : va_W} (hd : decode cc pc = .ok (.invokevirtual idx, 3)) (hm : zMV own idx 7 y b n ret k)
    (hc : zCt wp l y b n ret fr lo (.inr (7, B) :: As) h (zFn (some v) h1)) (hAs : ∀ u ∈ As, ∃ x, u = .inl x) (hs : stk = As.reverse ++ .inr (7, B) :: rest) (hR : fr + 1 ≤ R.frames ∧ 8 + (n + 11) + lo ≤ R.locals) (hcs : cells ≤ R.cells ∧ slots ≤ R.slots) (hk8 : As.length = k ∧ rest.length ≤ 8) (hv : yok v)
    (kk : zTy wp h1 → zRg h1 → yS w p l e R s m args below meth c nL cells slots Q (pc + 3) loc (v :: rest) (yL w (a ++ PL wp h1))) : yS w p l e R s m args below meth c nL cells slots Q pc loc stk (yL w (a ++ PL wp h)) := by
  have C0 := C
  obtain ⟨hx, hb, hml, hown, hts, hK⟩ := C
  obtain ⟨m0, ⟨qc, m1, m1'⟩, m2, m3, m4, m5, m6, m7, m8⟩ := hm
  intro H locs ls hR1 hS hl hk ho T hT X
  have hRl : zRel wp h H := PL_rel P hTy hRg (yL_right hR1)
  have hM := hc (fun u hu => by
    rcases List.mem_cons.mp hu with rfl | hu
    · exact P.2.2.2.2.2
    · obtain ⟨x, rfl⟩ := hAs u hu
      exact hk _ (by rw [hs]; exact List.mem_append_left _ (List.mem_reverse.mpr hu)))
  obtain ⟨i, hi⟩ := hRl.get (k := 7) P.2.2.2.2.2 (by decide)
  rw [zE_obj (ci := 7) P.2.2.2.2.2 m0] at hi
  have hcall : CallW R s args own y.cls idx y b n ret (Cond.code y b n ret :: zw_T) (zRm fr lo) 0 0 k :=
    ⟨callB_of k hts (zw_good_ws m6) rfl rfl rfl (hts _ m5) (hts _ m2) ⟨m7.1, m7.2, m8⟩ hR, hts _ m3, hts _ m4⟩
  have hrec : ∃ cellB : Cell, H[B]? = some cellB ∧ cellB.vm.isStatics = false ∧ s.vm.findClass y.cls = some cellB.cls := by
    have hKp : va_K (zwD wp) vwCl (ztys w) s := by rw [P.1]; exact hK.1
    have := va_recv hKp hRl.1 m1 hi
    rwa [m1'] at this
  have hr := va_runV (p := p) (l := l) (e := e) (R := R) (below := below) (meth := meth) (H := H) (locs := locs) (cells := cells) (slots := slots) (b := B) (As := As.map zval) (rest := rest.map zval) (g := F0 m pc ls (stk.map zval)) (C := y.cls) ⟨hx, hb, hml, hown, hts⟩ hM hcall
    ⟨zPre_blind, hrec, fun U hU hW => ⟨rfl, P.2.1 U (by rw [hU]; exact (hRl.1 i _ hi).lt) (yKn.warm hW hS hU ⟨hK, hX⟩), by rw [hU]; exact hRl⟩⟩ rfl (by rw [List.length_map]; exact hk8.1) hl.1 (by
      show stk.map zval = _
      rw [hs, List.map_append, List.map_reverse]
      rfl) (lv_room (by rw [zsum_len]; exact hk8.2)) hd ⟨by simpa using hcs.1, by simpa using hcs.2⟩
  obtain ⟨v9, st₀, t9, T', L, h0, X', hL, e1, e2, ⟨⟨r, h2, hv9, ⟨hr1, hh1⟩, hR2, -⟩, hz, hkeep⟩, st⟩ := hr T hT X
  cases hv9
  subst hr1
  subst hh1
  rw [h0] at hz hkeep
  have hj : yL w (PL wp h2 ++ a) T'.heap := by
    refine yL_join (wc := wp) (ws0 := a ++ PL wp h) (H0 := H) P.1 hR1 (yL_left hR1).2 (fun k q hq => ⟨⟨k, by rw [List.getElem?_append_left (List.getElem?_eq_some_iff.mp hq).1]; exact hq⟩, fun z => ?_⟩) P.2.2.1 (by rw [e1]; exact PL_of P hR2) (by rw [e1]; exact hkeep)
    obtain ⟨j, hj9⟩ := List.getElem?_of_mem (List.mem_map.mpr ⟨q.1, (P.2.2.2.1 q.1).mpr z, rfl⟩ : (q.1, zE wp h q.1) ∈ PL wp h)
    have hlt := (List.getElem?_eq_some_iff.mp hq).1
    have := hR1.2.1 k (a.length + j) q (q.1, zE wp h q.1) (by rw [List.getElem?_append_left hlt]; exact hq) (by rw [List.getElem?_append_right (Nat.le_add_right _ _), Nat.add_sub_cancel_left]; exact hj9) rfl
    omega
  obtain ⟨t2, a1, b1⟩ := kk hR2.2.2.1 hR2.2.2.2.1 T'.heap (locs ++ L) ls (yL_swap hj)
    ⟨Nat.le_trans hS.1 (by rw [e1]; exact hz), fun q h1 h2 => by rw [e1, hkeep q (Nat.lt_of_lt_of_le h1 hS.1) (fun z => h2 (P.2.2.1 q z))]; exact hS.2.1 q h1 h2, fun q hq => by
      rcases List.mem_append.mp hq with h | h
      · exact hS.2.2 q h
      · exact P.2.2.1 _ (hL q h)⟩ hl (yok_cons hv fun u hu => hk u (by rw [hs]; exact List.mem_append_right _ (List.mem_cons_of_mem _ hu))) ho T' rfl X'
  exact ⟨t2, st t2 a1, b1⟩
theorem ty16 : (ztys w)[7]? = some (zwA w 16, .int) := ztys_at (k := 16) (by decide) (by decide)
theorem y_newI (C : zC w p s m args c nL cc own) {N : Nat} (hN : N ≤ 1000) (hA : ∀ q, s.heap.size ≤ q → zA w q) (hcs : cells + 1 ≤ R.cells ∧ slots + N ≤ R.slots) (harr : Cond.arrayClass .int ∈ zw_T) (hd : decode cc pc = .ok (.newarray .int, 2))
    (kk : ∀ q : Nat, yS w p l e R s m args below meth c nL (cells + 1) (slots + N) Q (pc + 2) loc (.inr (16, q) :: stk) (yL w ([(q, .inl (zwA w 16, N, .inl (fun _ => zi 0)))] ++ ws))) : yS w p l e R s m args below meth c nL cells slots Q pc loc (.inl (N : Int) :: stk) (yL w ws) := by
  intro H locs ls hR hS hl hk ho
  obtain ⟨hx, hb, hml, hown, hts, hK⟩ := C
  have hNr : zR (N : Int) := ⟨by omega, by omega⟩
  refine va_newaK (N := N) hx hb (atype := .int) (hts _ harr) rfl hd rfl ?_ ?_ (by show N * 4 ≤ 536870912; omega) hcs.1 hcs.2 rfl fun H1 cA e1 z1 o1 _ hNm => ?_
  · rw [Int32.lt_iff_toInt_lt, zi_toInt hNr]
    show ¬ (N : Int) < 0
    omega
  · rw [zi_nat hNr]; exact Int.toNat_natCast _
  have hra : s.vm.findClass ("[" ++ FieldType.int.toString) = some (zwA w 16) := (hK.1.2 7 _ ty16).2
  have hcA : cA = zwA w 16 := Option.some.inj (hNm.symm.trans hra)
  subst hcA
  refine kk H.size H1 locs ls (yL_swap ⟨?_, hR.2.push hR.1 rfl (hA _ hS.1)⟩) ⟨by rw [z1]; exact Nat.le_succ_of_le hS.1, fun x q1 q2 => (o1 x (Nat.lt_of_lt_of_le q1 hS.1)).trans (hS.2.1 x q1 q2), hS.2.2⟩ hl (yok_cons (v := .inr (16, H.size)) trivial (yok_tl hk)) ho
  refine (hR.1.kept fun k q hq => o1 q.1 ((hR.1 k q hq).lt)).app fun k q hq => ?_
  have hk0 : k = 0 := by
    have := (List.getElem?_eq_some_iff.mp hq).1
    simpa using this
  subst hk0
  cases hq
  exact e1
theorem y_iald (C : zC w p s m args c nL cc own) {a k n i : Nat} {y : Int} {F : Nat → Int} (hd : decode cc pc = .ok (.iaload, 1)) (hy : y = (i : Int)) (hi : i < n) (hF : zR (F i))
    (kk : yS w p l e R s m args below meth c nL cells slots Q (pc + 1) loc (.inl (F i) :: stk) (yL w ([(a, .inl (zwA w 16, n, .inl (fun j => zi (F j))))] ++ ws))) : yS w p l e R s m args below meth c nL cells slots Q pc loc (.inl y :: .inr (k, a) :: stk) (yL w ([(a, .inl (zwA w 16, n, .inl (fun j => zi (F j))))] ++ ws)) := by
  subst hy
  intro H locs ls hR hS hl hk ho
  obtain ⟨hx, hb, hml, hown, hts, hK⟩ := C
  have hir : zR (i : Int) := yok_hd hk
  have e1 : (zi (i : Int)).toNatClampNeg = i := by rw [zi_nat hir]; exact Int.toNat_natCast _
  refine va_iald (i := zi (i : Int)) hx hb hK.1 hR.1 0 7 rfl ty16 (zi_in hir (by omega) (by omega)) hd ?_
  rw [e1]
  exact kk H locs ls hR hS hl (yok_cons (v := .inl (F i)) hF (yok_tl (yok_tl hk))) ho
theorem y_iast (C : zC w p s m args c nL cc own) {a k n i : Nat} {x y : Int} {F : Nat → Int} (hd : decode cc pc = .ok (.iastore, 1)) (hy : y = (i : Int)) (hi : i < n)
    (kk : yS w p l e R s m args below meth c nL cells slots Q (pc + 1) loc stk (yL w ([(a, .inl (zwA w 16, n, .inl (fun j => zi (if j = i then x else F j))))] ++ ws))) : yS w p l e R s m args below meth c nL cells slots Q pc loc (.inl x :: .inl y :: .inr (k, a) :: stk) (yL w ([(a, .inl (zwA w 16, n, .inl (fun j => zi (F j))))] ++ ws)) := by
  subst hy
  intro H locs ls hR hS hl hk ho
  obtain ⟨hx', hb, hml, hown, hts, hK⟩ := C
  have hir : zR (i : Int) := yok_hd (yok_tl hk)
  have e1 : (zi (i : Int)).toNatClampNeg = i := by rw [zi_nat hir]; exact Int.toNat_natCast _
  refine va_iast (i := zi (i : Int)) (x := zi x) hx' hb hK.1 hR.1 hR.2 hS 0 7 rfl ty16 (zi_in hir (by omega) (by omega)) hd fun H1 locs1 h1 h2 h3 => ?_
  rw [e1] at h1 h2
  have e2 : upd (fun j => zi (F j)) i (zi x) = fun j => zi (if j = i then x else F j) := by
    funext j
    unfold upd
    split <;> rfl
  rw [e2] at h1 h2
  exact kk H1 locs1 ls ⟨h1, h2⟩ h3 hl (yok_tl (yok_tl (yok_tl hk))) ho
end YP
