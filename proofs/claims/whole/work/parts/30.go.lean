/-! From the law's entry to its loop, and through it. -/
def gO (o j : Nat) : Nat := if o = 0 then (if j = 0 then 1 else if j = 1 then 42 else if j = 2 then 83 else if j = 3 then 85 else if j = 4 then 497 else 0) else if o < 42 then 1 + skO (o - 1) j else if o < 83 then 42 + skO (o - 42) j else if o < 87 then (if o = 83 then (if j = 7 then 84 else 0) else if o = 85 then (if j = 1 then 86 else 0) else if o = 86 then 87 + 41 * j else 0) else if o < 497 then (87 + 41 * ((o - 87) / 41)) + skO ((o - 87) % 41) j else if o < 500 then (if o = 497 then (if j = 0 then 498 else if j = 1 then 500 else 0) else if o = 498 then (if j = 1 then 499 else 0) else 0) else if o < 541 then 500 + skO (o - 500) j else if o = 541 then 541 + sm_O j else 0
def gI (o j : Nat) : Int := if o = 0 then 0 else if o < 42 then skI (o - 1) j else if o < 83 then skI (o - 42) j else if o < 87 then 0 else if o < 497 then skI ((o - 87) % 41) j else if o < 500 then (if o = 497 ∧ j = 2 then -1 else 0) else if o < 541 then skI (o - 500) j else if o = 541 then (if j = 17 then -1 else 0) else 0
/-- all cells as the constructors leave them, but for the reference's rows -/
def gB (B : Nat) : zH := (fun a j => if B ≤ a then gI (a - B) j else 0, fun a j => B + gO (a - B) j)
theorem gB2 (B o j : Nat) : (gB B).2 (B + o) j = B + gO o j := by show B + gO (B + o - B) j = _; rw [Nat.add_sub_cancel_left]
theorem gB1 (B o j : Nat) : (gB B).1 (B + o) j = gI o j := by
  show (if B ≤ B + o then gI (B + o - B) j else 0) = _
  rw [if_pos (Nat.le_add_right _ _), Nat.add_sub_cancel_left]
def gW (w : zW) (B : Nat) : Prop := ∀ a, zwK w a = if B ≤ a then gK (a - B) else 31
theorem gW.at {w : zW} {B : Nat} (h : gW w B) (o : Nat) : zwK w (B + o) = gK o := by rw [h, if_pos (Nat.le_add_right _ _), Nat.add_sub_cancel_left]
theorem gK_1 : ∀ o, o < 41 → gK (1 + o) = skK o := by decide +kernel
theorem gK_42 : ∀ o, o < 41 → gK (42 + o) = skK o := by decide +kernel
theorem gK_500 : ∀ o, o < 41 → gK (500 + o) = skK o := by decide +kernel
theorem gK_87 : ∀ i, i < 10 → ∀ o, o < 41 → gK (87 + 41 * i + o) = skK o := by decide +kernel
theorem gK_541 : ∀ o, o < 11 → gK (541 + o) = sm_K o := by decide +kernel
theorem gO_1 {o : Nat} (h : o < 41) (j : Nat) : gO (1 + o) j = 1 + skO o j := by
  unfold gO
  rw [if_neg (by omega), if_pos (by omega), Nat.add_sub_cancel_left]
theorem gO_42 {o : Nat} (h : o < 41) (j : Nat) : gO (42 + o) j = 42 + skO o j := by
  unfold gO
  rw [if_neg (by omega), if_neg (by omega), if_pos (by omega), Nat.add_sub_cancel_left]
theorem gO_87 {i o : Nat} (hi : i < 10) (h : o < 41) (j : Nat) : gO (87 + 41 * i + o) j = 87 + 41 * i + skO o j := by
  unfold gO
  rw [if_neg (by omega), if_neg (by omega), if_neg (by omega), if_neg (by omega), if_pos (by omega), show (87 + 41 * i + o - 87) / 41 = i by omega, show (87 + 41 * i + o - 87) % 41 = o by omega]
theorem gO_500 {o : Nat} (h : o < 41) (j : Nat) : gO (500 + o) j = 500 + skO o j := by
  unfold gO
  rw [if_neg (by omega), if_neg (by omega), if_neg (by omega), if_neg (by omega), if_neg (by omega), if_neg (by omega), if_pos (by omega), Nat.add_sub_cancel_left]
theorem gI_1 {o : Nat} (h : o < 41) (j : Nat) : gI (1 + o) j = skI o j := by
  unfold gI
  rw [if_neg (by omega), if_pos (by omega), Nat.add_sub_cancel_left]
theorem gI_42 {o : Nat} (h : o < 41) (j : Nat) : gI (42 + o) j = skI o j := by
  unfold gI
  rw [if_neg (by omega), if_neg (by omega), if_pos (by omega), Nat.add_sub_cancel_left]
theorem gI_87 {i o : Nat} (hi : i < 10) (h : o < 41) (j : Nat) : gI (87 + 41 * i + o) j = skI o j := by
  unfold gI
  rw [if_neg (by omega), if_neg (by omega), if_neg (by omega), if_neg (by omega), if_pos (by omega), show (87 + 41 * i + o - 87) % 41 = o by omega]
theorem gI_500 {o : Nat} (h : o < 41) (j : Nat) : gI (500 + o) j = skI o j := by
  unfold gI
  rw [if_neg (by omega), if_neg (by omega), if_neg (by omega), if_neg (by omega), if_neg (by omega), if_neg (by omega), if_pos (by omega), Nat.add_sub_cancel_left]
theorem gI_mid {o : Nat} (h1 : 83 ≤ o) (h2 : o < 87) (j : Nat) : gI o j = 0 := by
  unfold gI
  rw [if_neg (by omega), if_neg (by omega), if_neg (by omega), if_pos (by omega)]
theorem gI_0 (j : Nat) : gI 0 j = 0 := rfl
theorem gI_mod {o : Nat} (h1 : 542 ≤ o) (j : Nat) : gI o j = 0 := by
  unfold gI
  rw [if_neg (by omega), if_neg (by omega), if_neg (by omega), if_neg (by omega), if_neg (by omega), if_neg (by omega), if_neg (by omega), if_neg (by omega)]
theorem g_St {w : zW} {B t : Nat} (hW : gW w B) (hk : ∀ o, o < 41 → gK (t + o) = skK o) (hO : ∀ o, o < 41 → ∀ j, gO (t + o) j = t + skO o j) (hI : ∀ o, o < 41 → ∀ j, gI (t + o) j = skI o j) : zLSt w (gB B) (B + t) := by
  intro o ho
  refine ⟨?_, fun j => ⟨?_, ?_⟩⟩
  · rw [Nat.add_assoc, hW.at, hk o ho]
  · rw [Nat.add_assoc, gB2, hO o ho j]
    omega
  · rw [Nat.add_assoc, gB1, hI o ho j]
theorem g_H {w : zW} {B : Nat} (hW : gW w B) : zLH w (gB B) (B + 85) := by
  refine ⟨hW.at 85, hW.at 86, gB2 B 85 1, fun j => (gB1 B 85 j).trans (gI_mid (by decide) (by decide) j), fun j => ?_, fun i hi => ?_⟩
  · have h := gB2 B 86 j
    have e : gO 86 j = 87 + 41 * j := rfl
    rw [e] at h
    refine h.trans ?_
    omega
  · rw [show B + 85 + 2 + 41 * i = B + (87 + 41 * i) by omega]
    exact g_St hW (gK_87 i hi) (fun o ho j => gO_87 hi ho j) (fun o ho j => gI_87 hi ho j)
theorem g_L {w : zW} {B : Nat} (hW : gW w B) : zLL w (gB B) (B + 497) := by
  refine ⟨hW.at 497, hW.at 498, hW.at 499, gB2 B 497 0, gB2 B 497 1, gB2 B 498 1, fun j => ?_, fun j => ?_, fun j => ?_, ?_⟩
  · refine (gB1 B 497 j).trans ?_
    show (if 497 = 497 ∧ j = 2 then (-1 : Int) else 0) = _
    simp
  · refine (gB1 B 498 j).trans ?_
    show (if 498 = 497 ∧ j = 2 then (-1 : Int) else 0) = _
    rw [if_neg (fun q => absurd q.1 (by decide))]
  · refine (gB1 B 499 j).trans ?_
    show (if 499 = 497 ∧ j = 2 then (-1 : Int) else 0) = _
    rw [if_neg (fun q => absurd q.1 (by decide))]
  · exact g_St (t := 500) hW gK_500 (fun o ho j => gO_500 ho j) (fun o ho j => gI_500 ho j)
theorem g_B {w : zW} {B : Nat} (hW : gW w B) : zLB w (gB B) B :=
  ⟨hW.at 0, gB2 B 0 0, gB2 B 0 1, gB2 B 0 2, gB2 B 0 3, gB2 B 0 4, g_St hW gK_1 (fun o ho j => gO_1 ho j) (fun o ho j => gI_1 ho j), g_St hW gK_42 (fun o ho j => gO_42 ho j) (fun o ho j => gI_42 ho j),
   ⟨hW.at 83, hW.at 84, gB2 B 83 7, fun j => (gB1 B 83 j).trans (gI_mid (by decide) (by decide) j), fun j => (gB1 B 84 j).trans (gI_mid (by decide) (by decide) j)⟩, g_H hW, g_L hW⟩
theorem g_M {w : zW} {B : Nat} (hW : gW w B) : zLM w (gB B) (B + 541) := by
  refine ⟨fun o ho => ?_, fun j => ?_, fun j => gB1 B 541 j, fun o h1 h2 j => ?_⟩
  · rw [Nat.add_assoc, hW.at, gK_541 o ho]
  · refine (gB2 B 541 j).trans ?_
    show B + (541 + sm_O j) = _
    omega
  · rw [Nat.add_assoc, gB1]
    exact gI_mod (by omega) j
theorem skI_R (o j : Nat) : zR (skI o j) := by
  unfold skI
  split
  · exact ⟨by decide, by decide⟩
  · split
    · rename_i h
      exact zsV_R 2 (by decide) j h.2
    · exact zR_0
theorem gI_R (o j : Nat) : zR (gI o j) := by
  unfold gI
  repeat' split
  all_goals first | exact skI_R _ _ | exact zR_0 | exact ⟨by decide, by decide⟩
theorem g_Rg (B : Nat) : zRg (gB B) := by
  intro a j
  show zR (if B ≤ a then gI (a - B) j else 0)
  split
  · exact gI_R _ _
  · exact zR_0
theorem gT : ∀ o, o < 553 → ∀ j, j < 29 → j < zn (gK o - 1) → zft (gK o - 1) j ≠ 0 → gK (gO o j) = zft (gK o - 1) j := by decide +kernel
theorem gT29 : ∀ o, o < 553 → 29 < zn (gK o - 1) → 9 ≤ gK o - 1 ∧ (zar (gK o - 1)).2.1 = 0 := by decide +kernel
theorem gK_z : ∀ o, o < 553 → 1 ≤ gK o ∧ gK o ≤ 22 := by decide +kernel
theorem gK_e {o : Nat} (h : 553 ≤ o) : gK o = 0 := by
  unfold gK
  rw [if_neg (by omega), if_neg (by omega), if_neg (by omega), if_neg (by omega), if_neg (by omega), if_neg (by omega), if_neg (by omega), if_neg (by omega), if_neg (by omega)]
theorem g_own {w : zW} {B a : Nat} (hW : gW w B) (h : zwK w a ≠ 0 ∧ zwK w a ≤ 22) : B ≤ a ∧ a < B + 553 := by
  have h1 := hW a
  by_cases hb : B ≤ a
  · refine ⟨hb, ?_⟩
    rw [if_pos hb] at h1
    rcases Nat.lt_or_ge a (B + 553) with q | q
    · exact q
    · rw [gK_e (by omega)] at h1
      exact absurd h1 h.1
  · rw [if_neg hb] at h1
    omega
theorem g_Ty {w : zW} {B : Nat} (hW : gW w B) {h : zH} (h2 : h.2 = (gB B).2) : zTy w h := by
  intro a j k1 k2 k3
  by_cases hb : zwK w a ≤ 22
  · obtain ⟨g1, g2⟩ := g_own hW ⟨k1, hb⟩
    obtain ⟨o, rfl⟩ : ∃ o, a = B + o := ⟨a - B, by omega⟩
    have ho : o < 553 := by omega
    rw [hW.at] at k2 k3 ⊢
    rw [h2, gB2, hW.at]
    rcases Nat.lt_or_ge j 29 with q | q
    · exact gT o ho j q k2 k3
    · obtain ⟨t1, t2⟩ := gT29 o ho (by omega)
      exact absurd (zft_num t1 t2 j) k3
  · rw [zn_big (by omega)] at k2
    omega
section GO
variable {w : zW} {p : Program} {l : Launch} {e : Env} {R : Room} {s : State} {m : MethodId} {args : Array Value} {below : List Frame} {meth : Method} {c : Code} {nL cells slots : Nat} {Q : State → Prop}
variable {cc : ByteArray} {own : String} {a n pc : Nat} {loc : List (Nat × Value)} {stk : List Value} {V : Nat → Nat → Value}
theorem u_astoreK (C : zC w p s m args c nL cc own) {k : Fin 4} {i x : Nat} {loc' : List (Nat × Value)} (hd : decode cc pc = .ok (.astore_n k, 1)) (hi : (k : Nat) = i) (hn : i < nL) (hl : (i, Value.ref x) :: loc.filter (fun q => !(q.1 == i) && !(q.1 + 1 == i && q.2.category == 2)) = loc') (kk : zU w p l e R s m args below meth c nL cells slots Q a n (pc + 1) loc' stk V) : zU w p l e R s m args below meth c nL cells slots Q a n pc loc (.ref x :: stk) V :=
  fun H locs ls h1 h2 h3 => lv_astore_n (x := x) C.1 C.2.1 hd hi h3 hn hl fun ls' h4 => kk H locs ls' h1 h2 h4
theorem u_istoreK (C : zC w p s m args c nL cc own) {i : Nat} {x : Int32} {loc' : List (Nat × Value)} (hd : decode cc pc = .ok (.istore i, 2)) (hn : i < nL) (hl : (i, Value.int x) :: loc.filter (fun q => !(q.1 == i) && !(q.1 + 1 == i && q.2.category == 2)) = loc') (kk : zU w p l e R s m args below meth c nL cells slots Q a n (pc + 2) loc' stk V) : zU w p l e R s m args below meth c nL cells slots Q a n pc loc (.int x :: stk) V :=
  fun H locs ls h1 h2 h3 => lv_istore (x := x) C.1 C.2.1 hd h3 hn hl fun ls' h4 => kk H locs ls' h1 h2 h4
/-- from the cells to the pool of the whole world -/
theorem u_toW {locz : List (Option zv)} {h : zH} {k : Nat} (hB : zwB w = a) (hL : zwL w = (List.range k).map (fun i => zwB w + i)) (hK : ∀ b, zwK w b ≠ 0 ∧ zwK w b ≤ 22 → zwB w ≤ b ∧ b < zwB w + k) (hT : zTy w h) (hG : zRg h) (hloc : ∀ q ∈ zlo 0 locz, q ∈ loc) (hok : ∀ v, some v ∈ locz → zok w v) (kk : zV w p l e R s m args below meth c nL cells slots Q pc locz [] h) : zU w p l e R s m args below meth c nL cells slots Q a (a + k) pc loc [] (zvl w h) := by
  subst hB
  intro H locs ls h1 h2 h3
  exact kk H locs ls (zRel.ofRaw (k := k) hL hK hT hG h1) h2 (zlo_sub h3 hloc) (fun v hv => nomatch hv) hok
end GO
set_option maxRecDepth 4096 in
theorem law_go {p : Program} {e : Env} {s : State} {m : MethodId} {below : List Frame} {meth : Method} {c : Code} (l : Launch) (hl0 : l.stackTraces = false) {b L : Nat} {xs : Nat → Int32} (hL : L ≤ 3072) (hx : p.tables.exec = Jvm.exec) (hb : c.code = cL_law) (hml : c.maxLocals = 7) (hown : s.vm.findClass RL = some m.cls) (hts : ∀ w ∈ lw_tbl, w.before #[Value.ref b] s = true) (hX : va_X b L xs s s.heap) (hbl : b < s.heap.size) (hgv : (Jvm.Cond.and given_1 narrow_1).before #[Value.ref b] s = true)
    {h1 : zH} (hN : q_X8_newExchange (gB s.heap.size) (s.heap.size + 541) = some ((), h1)) (h12 : h1.2 = (gB s.heap.size).2) (hfr : ∀ a, ¬ (s.heap.size + 541 ≤ a ∧ a < s.heap.size + 552) → ∀ j, h1.1 a j = (gB s.heap.size).1 a j) (hG1 : zRg h1)
    {I : zH → Prop} (hI : zAll I s.heap.size (s.heap.size + 541) (s.heap.size + 552)) (hI0 : I (zcpA h1 (s.heap.size + 541 + 3) (s.heap.size + 541 + 2) 65)) {Q : State → Prop}
    (fin : ∀ (H : Heap) (locs : List Loc) (ls : Array Slot) (cells slots : Nat), cells ≤ 601024 → slots ≤ 7293033 → va_S (fun q => s.heap.size ≤ q) s.heap H locs → W p l e room_1 s m #[Value.ref b] below meth c H locs cells slots Q (F0 m 2692 ls [])) :
    W p l e room_1 s m #[Value.ref b] below meth c s.heap [] 0 0 Q (entryFrame m ([Value.ref b] : List Value).toArray 7) := by
  obtain ⟨w, wB, wL, wK, hKn, hAn⟩ := w_start hts hgv
  have hW : gW w s.heap.size := wK
  have C : zC w p s m #[Value.ref b] c 7 cL_law RL := ⟨hx, hb, hml, hown, fun x hx => hts x (zw_lw hx), hKn⟩
  have hB : zwB w ≤ s.heap.size := by rw [wB]; exact Nat.le_refl _
  have hl := lv_entry [Value.ref b] (n := 7) (Nat.le_of_ble_eq_true rfl)
  rw [lg_entry_eq]
  generalize (lg_sl [Value.ref b] ++ List.replicate (7 - (lg_sl [Value.ref b]).length) Slot.unset).toArray = ls at hl ⊢
  have hl : lv_has ls 7 [(0, .ref b)] := hl
  have hZ : ∀ o, o < 553 → ∀ j, h1.1 (s.heap.size + o) j = (gB s.heap.size).1 (s.heap.size + o) j ∨ 541 ≤ o := fun o ho j => by
    rcases Nat.lt_or_ge o 541 with q | q
    · exact Or.inl (hfr _ (by omega) j)
    · exact Or.inr q
  have key : zU w p l e room_1 s m #[Value.ref b] below meth c 7 0 0 Q s.heap.size s.heap.size 0 [(0, .ref b)] [] (fun _ _ => .null) := by
    refine u_new C (ci := 7) (N := 5) (T := TX7) (ty0 := tyX7) (Cn := RX7) rfl inT7 rfl tyX7_ok (by decide) (by decide) (zmem 90 (by decide +kernel)) (zmem 91 (by decide +kernel)) (zmem 70 (by decide +kernel)) (hW.at 0) ⟨by decide, by decide⟩ dL_law_0 ?_
    refine u_dup C dL_law_3 ?_
    refine u_callI C hAn hB rfl dL_law_4 (zmem 92 (by decide +kernel)) (zmem 93 (by decide +kernel)) (zmem 70 (by decide +kernel)) (zmem 94 (by decide +kernel)) ⟨by decide, by decide⟩ (by decide +kernel) (i_X7 w l (gB s.heap.size) s.heap.size (g_B hW) (g_Rg _)) rfl (Nat.le_refl _) (hW.at 0) (fun j => by unfold znew; rw [if_pos rfl]) ⟨by decide, by decide⟩ ⟨by decide, by decide⟩ (show (1 : Nat) ≤ 8 by decide) ?_
    refine u_astoreK C dL_law_7 (i := 1) rfl (by decide) rfl ?_
    refine u_new C (ci := 8) (N := 29) (T := TX8) (ty0 := tyX8) (Cn := RX8) rfl inT8 rfl tyX8_ok (by decide) (by decide) (zmem 1182 (by decide +kernel)) (zmem 1183 (by decide +kernel)) (zmem 79 (by decide +kernel)) (hW.at 541) ⟨by decide, by decide⟩ dL_law_8 ?_
    refine u_dup C dL_law_11 ?_
    refine u_callI C hAn hB rfl dL_law_12 (zmem 1184 (by decide +kernel)) (zmem 1185 (by decide +kernel)) (zmem 79 (by decide +kernel)) (zmem 1186 (by decide +kernel)) ⟨by decide, by decide⟩ (by decide +kernel) (i_X8 w l (gB s.heap.size) h1 (zcpA h1 (s.heap.size + 541 + 3) (s.heap.size + 541 + 2) 65) (s.heap.size + 541) (g_M hW) (g_Rg _) hN h12 (fun _ _ _ _ _ => rfl)) rfl (Nat.le_add_right _ _) (hW.at 541) (fun j => by unfold znew; rw [if_pos rfl]) ⟨by decide, by decide⟩ ⟨by decide, by decide⟩ (show (1 : Nat) ≤ 8 by decide) ?_
    refine u_astoreK C dL_law_15 (i := 2) rfl (by decide) rfl ?_
    refine u_iconst C dL_law_16 ?_
    refine u_n (n' := s.heap.size + 552) (by omega) ?_
    refine u_newI (k := 21) (N := 1) C hAn ⟨by decide, by decide⟩ rfl rfl (zmem 1719 (by decide +kernel)) (by decide) ⟨by decide, by decide⟩ (fun j => rfl) (hW.at 552) ⟨by decide, by decide⟩ dL_law_17 ?_
    refine u_astoreK C dL_law_19 (i := 3) rfl (by decide) rfl ?_
    refine u_iconst C dL_law_20 ?_
    refine u_istoreK C dL_law_21 (by decide) rfl ?_
    refine u_n (n' := s.heap.size + 553) (by omega) ?_
    refine u_to (V' := zvl w (zcpA h1 (s.heap.size + 541 + 3) (s.heap.size + 541 + 2) 65)) (fun b' g1 g2 j hj => ?_) ?_
    · obtain ⟨o, rfl⟩ : ∃ o, b' = s.heap.size + o := ⟨b' - s.heap.size, by omega⟩
      have ho : o < 553 := by omega
      by_cases h552 : o = 552
      · subst h552
        rw [znew_eq, zvl_at (k := 21) (hW.at 552)]
        refine zdv_vk rfl ?_
        show (if s.heap.size + 552 = s.heap.size + 541 + 2 ∧ j < 65 then _ else h1.1 (s.heap.size + 552) j) = _
        rw [if_neg (by omega), hfr _ (by omega), gB1]
        exact gI_mod (by decide) j
      rw [znew_ne (by omega)]
      by_cases h541 : 541 ≤ o
      · rw [zfin_ge (by omega)]
      rw [zfin_lt (by omega), znew_ne (by omega), zfin_ge (by omega)]
      unfold zvl zvk
      have e2 : (zcpA h1 (s.heap.size + 541 + 3) (s.heap.size + 541 + 2) 65).2 = (gB s.heap.size).2 := h12
      have e1 : (zcpA h1 (s.heap.size + 541 + 3) (s.heap.size + 541 + 2) 65).1 (s.heap.size + o) j = (gB s.heap.size).1 (s.heap.size + o) j := by
        show (if s.heap.size + o = s.heap.size + 541 + 2 ∧ j < 65 then _ else h1.1 (s.heap.size + o) j) = _
        rw [if_neg (by omega), hfr _ (by omega)]
      rw [e1, e2]
    refine u_toW (k := 553) (locz := zloc b s.heap.size (s.heap.size + 541) (s.heap.size + 552) 0) wB (by rw [wL, wB]) (fun b' hb' => by rw [wB]; exact g_own hW hb') (g_Ty hW h12) (fun b' j => ?_) (fun q hq => ?_) (fun v hv => ?_) ?_
    · show zR (if b' = s.heap.size + 541 + 2 ∧ j < 65 then h1.1 (s.heap.size + 541 + 3) j else h1.1 b' j)
      split
      · exact hG1 _ _
      · exact hG1 _ _
    · simp only [zloc, zlo, List.mem_cons, List.not_mem_nil, or_false] at hq
      simp only [List.mem_cons, List.not_mem_nil, or_false]
      rcases hq with rfl | rfl | rfl | rfl | rfl
      · simp [zval, Value.category]
      · simp [zval, Value.category]
      · simp [zval, Value.category]
      · simp [zval, Value.category]
      · simp [zval, Value.category]
    · simp only [zloc, List.mem_cons, List.not_mem_nil, or_false, Option.some.injEq, reduceCtorEq] at hv
      rcases hv with rfl | rfl | rfl | rfl | rfl
      · show zwK w b = 31
        rw [wK, if_neg (by omega)]
      · exact hW.at 0
      · exact hW.at 541
      · exact hW.at 552
      · exact ⟨by decide, by decide⟩
    have S : zScr w s xs b L := ⟨hX, hbl, by show ¬ zwB w ≤ b; rw [wB]; omega, hL⟩
    refine law_loop C hl0 S hI (fun cells slots i h q1 q2 => ?_) 3072 0 _ _ _ (by omega) (Nat.zero_le _) (by omega) (by omega) hI0
    intro H locs ls hR hS hl hk ho
    refine fin H locs ls cells slots q1 q2 ?_
    have e : zA w = fun q => s.heap.size ≤ q := by unfold zA; rw [wB]
    rw [← e]
    exact hS
  exact key s.heap [] ls ⟨rfl, fun b' g1 g2 => absurd g1 (by omega)⟩ va_S.rf hl
