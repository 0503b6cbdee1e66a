/-! The law's exchange: made, fed, loaded. -/
/-- the exchange's own world, from B on -/
def z7 (w : zW) (B : Nat) (Up : Nat → Prop) : zW := (zwD w, zwA w, B, (List.range 541).map (fun i => B + i), fun a => if B ≤ a then gK (a - B) else 31, fun i => if i = 31 then zwS w 0 else if i = 71 then zwS w 40 else zwS w i, Up, zwN w, zwX w, zsB.getD 0 [])
theorem z7_W {w : zW} {B : Nat} {Up : Nat → Prop} : gW (z7 w B Up) B := fun _ => rfl
theorem z7_Kn {w we : zW} {B : Nat} {Up : Nat → Prop} {s0 U : State} (hD : zwD w = zwD we ∧ zwA w = zwA we ∧ (∀ i, i ≠ 31 → i ≠ 71 → zwS w i = zwS we i) ∧ zwN w = zwN we ∧ zwX w = zwX we) (hs : yKn we s0) (hs0 : s0.heap.size = B) (hA : ∀ q, B ≤ q → Up q → zA w q) (hB : B ≤ U.heap.size) (h : yKn w U) : zKn (z7 we B Up) U := by
  obtain ⟨d1, d2, d3, d4, d5⟩ := hD
  obtain ⟨⟨-, -, ⟨a1, -, a4, -, -, -, -, a9, -, -, -⟩, -⟩, -⟩ := hs
  obtain ⟨⟨k1, k2, ⟨h1, h3, h4, h5, h6, h7, h8, h9, h10, h11, h12⟩, k4⟩, -⟩ := h
  have hA' : ∀ q, zA (z7 we B Up) q → zA w q := fun q hq => hA q hq.1 hq.2
  have lt : ∀ {q : Nat} {cell : Cell}, s0.heap[q]? = some cell → zwK (z7 we B Up) q = 31 := fun hq => if_neg (by
    have := (Array.getElem?_eq_some_iff.mp hq).1
    omega)
  have eS : ∀ i : Nat, i ≠ 31 → i ≠ 71 → zwS (z7 we B Up) i = zwS w i := fun i g1 g2 => by
    show (if i = 31 then zwS we 0 else if i = 71 then zwS we 40 else zwS we i) = _
    rw [if_neg g1, if_neg g2, d3 i g1 g2]
  have eW : ∀ i : Nat, i ≠ 31 → i ≠ 71 → zwS (z7 we B Up) i = zwS we i := fun i g1 g2 => by
    rw [eS i g1 g2, d3 i g1 g2]
  have s4 : vk_S 16 zsL zsB (fun i => zwS (z7 we B Up) i) (fun i => zwS (z7 we B Up) (40 + i)) (zA (z7 we B Up)) U U.heap := by
    have hv := h4.narrow hA'
    refine ⟨fun i hi => ?_, fun i j hi hj he => hv.2 i j hi hj ?_⟩
    · show va_O _ (zwS (z7 we B Up) i) _ _ _ ∧ va_OF _ _ _ _ (zwS (z7 we B Up) i) _ _ _ ∧ va_OF _ _ _ (.ref (zwS (z7 we B Up) (40 + i))) (zwS (z7 we B Up) i) _ _ _ ∧ va_T _ (zwS (z7 we B Up) (40 + i)) _ _ _ _ _
      rw [eS i (by omega) (by omega), eS (40 + i) (by omega) (by omega)]
      exact hv.1 i hi
    · show zwS w i = zwS w j
      rw [← eS i (by omega) (by omega), ← eS j (by omega) (by omega)]
      exact he
  have kk : ∀ i, i < 16 → zwK (z7 we B Up) (zwS (z7 we B Up) i) = 31 ∧ zwK (z7 we B Up) (zwS (z7 we B Up) (40 + i)) = 31 := fun i hi => by
    obtain ⟨⟨cell, g1, -⟩, -, -, ⟨cell2, g2, -⟩⟩ := a4.1 i hi
    rw [eW i (by omega) (by omega), eW (40 + i) (by omega) (by omega)]
    exact ⟨lt g1, lt g2⟩
  refine ⟨?_, ⟨k2.1, k2.2.1, fun r hr => ?_, k2.2.2.2.1, k2.2.2.2.2⟩, ⟨fun i hi => ?_, h3.narrow hA', s4, kk, h6.narrow hA', vx_Zq.narrow h7 hA', vx_Zq.narrow h8 hA', ?_, ?_, ⟨⟨(kk 0 (by decide)).1, (kk 0 (by decide)).2⟩, ⟨fun i hi => ?_, fun i j hi hj _ => by omega⟩⟩, ?_⟩, hB⟩
  · show va_K (zwD we) vwCl (ztys (z7 we B Up)) U
    have e : ztys (z7 we B Up) = ztys w := by
      unfold ztys
      show (List.range 13).map (fun i => (zwA we (i + 9), _)) = (List.range 13).map (fun i => (zwA w (i + 9), _))
      rw [d2]
    rw [e, ← d1]
    exact k1
  · have hr16 : r.2.2.1 < 16 := (by decide : ∀ r ∈ zw_SR, r.2.2.1 < 16) r hr
    rw [eS _ (by omega) (by omega)]
    exact k2.2.2.1 r hr
  · obtain ⟨g1, g2, g3⟩ := h1 i hi
    obtain ⟨-, -, cell, q1, -⟩ := a1 i hi
    rw [eS _ (by omega) (by omega)]
    refine ⟨?_, g2.narrow hA', g3.narrow hA'⟩
    rw [d3 _ (by omega) (by omega)]
    exact lt q1
  · obtain ⟨-, cell, q1, -⟩ := a9
    refine ⟨?_, ?_⟩
    · rw [eW 30 (by decide) (by decide)]
      exact lt q1
    · rw [eS 30 (by decide) (by decide)]
      show va_T .int (zwS w 30) (zwN we) (fun j => .int (zi (zwX we j))) (zA (z7 we B Up)) U U.heap
      rw [← d4, ← d5]
      exact h9.2.narrow hA'
  · show zwN we ≤ 260 ∧ ∀ j, zR (zwX we j)
    rw [← d4, ← d5]
    exact h10
  · obtain rfl : i = 0 := by omega
    exact s4.1 0 (by decide)
  · show (zsB.getD 0 []).length ≤ 100000 ∧ ∀ x ∈ zsB.getD 0 [], 0 ≤ x.toInt ∧ x.toInt < 128
    decide
theorem z7_An {w : zW} {B : Nat} {U : State} (hK : va_K (zwD w) vwCl (ztys w) U) {H : Heap} (hX : yX w U H) : zAn (z7 w B (fun _ => True)) U := by
  refine ⟨fun k h9 h22 => ?_, hX.1.2.1.2.1, hX.1.2.1.2.2.1, hX.1.2.1.2.2.2.1, hX.1.2.1.2.2.2.2, fun _ => trivial⟩
  have := (hK.2 (k - 9) _ (ztys_at h9 h22)).2
  show U.vm.findClass ("[" ++ (zar k).2.2.toString) = some (zwA w k)
  generalize (zar k).2.2 = ty at this
  cases ty with
  | object C =>
    obtain ⟨kA, comp, -, -, -, h⟩ := this
    exact h
  | _ => exact this
section YX7
variable {w wp : zW} {p : Program} {l : Launch} {e : Env} {R : Room} {s : State} {m : MethodId} {args : Array Value} {below : List Frame} {meth : Method} {c : Code} {nL cells slots : Nat} {Q : State → Prop}
variable {cc : ByteArray} {own : String} {pc : Nat} {loc : List (Option zv)} {stk : List zv}
/-- a static pure method of a text among the cells -/
theorem y_pureDS (C : zC w p s m args c nL cc own) (hX : yX w s s.heap) {idx n fr lo q qa kq : Nat} {t : List Int32} {strs : va_W} {y : MethodName} {b : ByteArray} {ret : Option FieldType} {rest : List zv} {v : zv} (hp : yProv w s strs q qa t) (hu : yOk t) (hd : decode cc pc = .ok (.invokestatic idx, 3)) (hm : zMS own idx y b n ret 1)
    (hc : zCt (zPt w yF q qa t) l y b n ret fr lo [.inr (30, q)] zH0 (zFn (some v) zH0)) (hs : stk = .inr (kq, q) :: rest) (hR : fr + 1 ≤ R.frames ∧ 8 + (n + 11) + lo ≤ R.locals) (hcs : cells ≤ R.cells ∧ slots ≤ R.slots) (hk8 : rest.length ≤ 8) (hv : yok v)
    {a : va_W} (kk : yS w p l e R s m args below meth c nL cells slots Q (pc + 3) loc (v :: rest) (yL w (a ++ strs))) : yS w p l e R s m args below meth c nL cells slots Q pc loc stk (yL w (a ++ strs)) := by
  have C0 := C
  obtain ⟨hx, hb, hml, hown, hts, hK⟩ := C
  obtain ⟨m2, m3, m5, m6, m7, m8⟩ := hm
  intro H locs ls hR1 hS hl hk ho T hT X
  have hT9 := hp a H locs yF hR1 hS (fun _ h => absurd h id)
  have hka : zwK (zPt w yF q qa t) q = 30 + 1 := if_pos (Or.inr (Or.inl rfl))
  have hM := hc (fun u hu => by
    simp only [List.mem_cons, List.not_mem_nil, or_false] at hu
    subst hu
    exact hka)
  have hcall : CallB R s args own idx y b n ret (Cond.code y b n ret :: zw_T) (zRm fr lo) 0 0 1 ∧ (Cond.static y).before args s = true :=
    ⟨callB_of 1 hts (zw_good_ws m6) rfl rfl rfl (hts _ m5) (hts _ m2) ⟨m7.1, m7.2, m8⟩ hR, hts _ m3⟩
  have hr := va_runS (p := p) (l := l) (e := e) (R := R) (below := below) (meth := meth) (H := H) (locs := locs) (cells := cells) (slots := slots) (As := [zval (.inr (30, q))]) (rest := rest.map zval) (g := F0 m pc ls (stk.map zval)) ⟨hx, hb, hml, hown, hts⟩ hM hcall
    ⟨zPre_blind, fun U hU hW => ⟨rfl, (zPt_Kn (fun _ h => absurd h id) hu (by rw [hU]; exact vk_S.moved hW.alike hT9) (yKn.warm hW hS hU ⟨hK, hX⟩)).1, zPt_rel⟩⟩ rfl rfl hl.1 (by
      show stk.map zval = _
      rw [hs]
      rfl) (lv_room (by rw [zsum_len]; exact hk8)) hd ⟨by simpa using hcs.1, by simpa using hcs.2⟩
  obtain ⟨v9, st₀, t9, T', L, h0, X', hL, e1, e2, ⟨⟨r, h1, hv9, ⟨hr1, -⟩, -, -⟩, hz, hkeep⟩, st⟩ := hr T hT X
  cases hv9
  subst hr1
  rw [h0] at hz hkeep
  have hkp : ∀ q, q < H.size → T'.heap[q]? = H[q]? := fun q hq => by rw [e1]; exact hkeep q hq (fun z => z.2)
  obtain ⟨t2, a1, b1⟩ := kk T'.heap (locs ++ L) ls (yL_stab H _ hR1 (by rw [e1]; exact hz) hkp)
    ⟨Nat.le_trans hS.1 (by rw [e1]; exact hz), fun q h1 h2 => by rw [hkp q (Nat.lt_of_lt_of_le h1 hS.1)]; exact hS.2.1 q h1 h2, fun q hq => by
      rcases List.mem_append.mp hq with h | h
      · exact hS.2.2 q h
      · exact absurd (hL q h).2 id⟩ hl (yok_cons hv fun u hu => hk u (by rw [hs]; exact List.mem_cons_of_mem _ hu)) ho T' rfl X'
  exact ⟨t2, st t2 a1, b1⟩
set_option maxRecDepth 4096 in
/-- the exchange is made -/
theorem X_new {B : Nat} {Up : Nat → Prop} (C : zC w p s m args c 3 cL_exchange RL) (hX : yX w s s.heap) (hB : s.heap.size = B) (hA : ∀ q, zA w q ↔ B ≤ q) (hR : 5 ≤ R.frames ∧ 8 + (1 + 11) + 134 ≤ R.locals) (hcs : 541 ≤ R.cells ∧ 10020 ≤ R.slots)
    (kk : yS w p l e R s m args below meth c 3 541 10020 Q 7 loc [.inr (7, B)] (yL w (PL (z7 w B Up) (gB B)))) : yS w p l e R s m args below meth c 3 0 0 Q 0 loc [] (fun H => H.size = B) := by
  have C0 := C
  obtain ⟨hx, hb, hml, hown, hts, hK⟩ := C
  intro H locs ls hsz hS hl hk ho
  have hc : vwCl[7]? = some (RX7, TX7, 5) := rfl
  have hKn := hK.1.1 7 _ hc
  refine W.newcK hx hb hown (hts _ (zmem 181 (by decide +kernel))) (hts (Cond.instantiable RX7 5) (zmem 59 (by decide +kernel))) (hts _ (zmem 21 (by decide +kernel))) rfl dL_exchange_0 (by omega) (by omega) hKn.2.1 hsz fun H1 kC hkC e1 z1 o1 => ?_
  refine lv_dup hx hb dL_exchange_3 rfl ?_
  have hS1 : va_S (zA w) s.heap H1 locs := ⟨by rw [z1, hB]; exact Nat.le_succ B, fun x q1 q2 => by
    rw [o1 x (by omega)]
    exact hS.2.1 x q1 q2, hS.2.2⟩
  have hM : zCi (z7 w B (fun _ => True)) l yX7_init cX7_init 1 4 134 540 10015 7 B 541 (gB B) := i_X7 _ l (gB B) B (g_B z7_W) (g_Rg B)
  have hcall : CallB R s args RL 124 yX7_init cX7_init 1 none (Cond.code yX7_init cX7_init 1 none :: zw_T) (zRmi 4 134 540 10015) 540 10015 0 ∧ yX7_init.name = "<init>" ∧ (Cond.instanceMethod yX7_init).before args s = true :=
    ⟨callB_of 0 hts (zw_good_ws (zmem 184 (by decide +kernel))) rfl rfl rfl (hts _ (zmem 21 (by decide +kernel))) (hts _ (zmem 182 (by decide +kernel))) ⟨by decide, by decide, by decide +kernel⟩ ⟨hR.1, hR.2⟩, rfl, hts _ (zmem 183 (by decide +kernel))⟩
  have hpre : ∀ U : State, U.heap = H1 → s.WarmedH U.vm → va_Pc [.ref B] (zPi (z7 w B (fun _ => True)) 7 B) (Value.ref B :: ([] : List Value)).toArray U := fun U hU hW => by
    have hk1 : yKn w U := yKn.warm hW hS1 hU ⟨hK, hX⟩
    refine ⟨rfl, z7_Kn (w := w) ⟨rfl, rfl, fun _ _ _ => rfl, rfl, rfl⟩ ⟨hK, hX⟩ hB (fun q hq _ => (hA q).mpr hq) (by rw [hU, z1]; exact Nat.le_succ B) hk1, z7_An hk1.1.1 hk1.2, Nat.le_refl _, by rw [hU, z1], ?_⟩
    rw [hU]
    have hb0 : t_OB B ((zwD w).1 7) 5 ((zwD w).2 7) H1 (fun k => defaultValue (tyX7 k)) := u_born tyX7 hts inT7 hKn hkC e1 tyX7_ok
    exact hb0.to (by decide)
  have hr := va_runI (p := p) (l := l) (e := e) (R := R) (below := below) (meth := meth) (H := H1) (locs := locs) (cells := 0 + 1) (slots := 0 + 5) (b := B) (As := []) (rest := [.ref B]) (g := F0 m (0 + 3 + 1) ls (.ref B :: [.ref B])) ⟨hx, hb, hml, hown, hts⟩ hM hcall
    ⟨zPi_blind, hpre⟩ rfl rfl hl.1 rfl (lv_room (Nat.le_of_ble_eq_true rfl)) dL_exchange_4 ⟨by omega, by omega⟩
  intro T hT X
  obtain ⟨v, st₀, t, T', L, h0, X', hL, e1', e2, ⟨⟨hv, hraw⟩, hz, hkeep⟩, st⟩ := hr T hT X
  cases hv
  rw [h0] at hz hkeep
  have hRl : zRel (z7 w B (fun _ => True)) (gB B) T'.heap := zRel.ofRaw (k := 541) (fun _ => trivial) rfl (fun a h => g_own z7_W h) (g_Ty z7_W rfl) (g_Rg B) (by rw [e1']; exact hraw)
  obtain ⟨t2, a1, b1⟩ := kk T'.heap (locs ++ L) ls ⟨hRl.1, hRl.2.1.weaken fun k q _ hq => (hA _).mpr hq.1⟩
    ⟨by rw [e1']; exact Nat.le_trans hS1.1 hz, fun x q1 q2 => by
      have hxB : x < B := Nat.lt_of_not_le fun z => q2 ((hA x).mpr z)
      rw [e1', hkeep x (Nat.lt_of_lt_of_le q1 hS1.1) (Nat.not_le.mpr hxB)]
      exact hS1.2.1 x q1 q2, fun q hq => by
      rcases List.mem_append.mp hq with h | h
      · exact hS.2.2 q h
      · exact (hA _).mpr (hL q h)⟩ hl (yok_cons (v := .inr (7, B)) trivial fun u hu => by cases hu) ho T' rfl X'
  exact ⟨t2, st t2 a1, b1⟩
end YX7
