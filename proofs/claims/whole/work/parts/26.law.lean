/-! The law's body from the head of its loop: one row a case, then the loop. -/
/-- a static call of a wrapper: the words -/
def zMW (own : String) (idx : Nat) (y : MethodName) (b : ByteArray) (n : Nat) (hh : List (Nat × Nat × Nat × Nat)) (k : Nat) : Prop :=
  Cond.methodLink own idx y ∈ zw_T ∧ Cond.static y ∈ zw_T ∧ Cond.initialized y.cls ∈ zw_T ∧ Cond.codeWith y b n (some .int) hh ∈ zw_T ∧ (y.cls ≠ "java/lang/invoke/MethodHandle" ∧ y.cls ≠ "java/lang/invoke/VarHandle") ∧ (parseMethodDescriptor y.desc).map (fun d => d.parameters.length) = some k
def sx (xs : Nat → Int32) (k : Nat) : Int := (xs k).toInt
/-- the script: an array that was there before -/
def zScr (w : zW) (s : State) (xs : Nat → Int32) (b L : Nat) : Prop := va_X b L xs s s.heap ∧ b < s.heap.size ∧ ¬ zA w b ∧ L ≤ 3072
abbrev zloc (b X M O : Nat) (i : Nat) : List (Option zv) := [some (.inr (30, b)), some (.inr (7, X)), some (.inr (8, M)), some (.inr (21, O)), some (.inl (i : Int)), none, none]
theorem zloc_ok56 {b X M O i k : Nat} {v : zv} {u t : Option zv} (h : (zloc b X M O i)[k]? = some (some v)) : (((zloc b X M O i).set 5 u).set 6 t)[k]? = some (some v) := by
  match k, h with
  | 0, h => exact h
  | 1, h => exact h
  | 2, h => exact h
  | 3, h => exact h
  | 4, h => exact h
  | 5, h => cases h
  | 6, h => cases h
  | k + 7, h => simp at h
section ZL
variable {w : zW} {p : Program} {l : Launch} {e : Env} {R : Room} {s : State} {m : MethodId} {args : Array Value} {below : List Frame} {meth : Method} {c : Code} {nL cells slots : Nat} {Q : State → Prop}
variable {cc : ByteArray} {own : String} {pc : Nat} {loc : List (Option zv)} {stk : List zv} {h : zH}
theorem v_more {cells' slots' : Nat} (h1 : cells ≤ cells') (h2 : slots ≤ slots') (kk : zV w p l e R s m args below meth c nL cells' slots' Q pc loc stk h) : zV w p l e R s m args below meth c nL cells slots Q pc loc stk h :=
  fun H locs ls hR hS hl hk ho => W.widen h1 h2 (kk H locs ls hR hS hl hk ho)
theorem v_wcall (C : zC w p s m args c nL cc own) {idx n k fr lo : Nat} {y : MethodName} {b : ByteArray} {hh : List (Nat × Nat × Nat × Nat)} {As rest : List zv} {post : Option zv → zH → Prop} (hd : decode cc pc = .ok (.invokestatic idx, 3)) (hm : zMW own idx y b n hh k)
    (hc : zCtW w l y b n hh fr lo As h post) (hs : stk = As.reverse ++ rest) (hR : fr + 1 ≤ R.frames ∧ 8 + (n + 11) + lo ≤ R.locals) (hcs : cells + 1 ≤ R.cells ∧ slots + 6 ≤ R.slots) (hk8 : As.length = k ∧ rest.length ≤ 8)
    (kk : ∀ (r : Option zv) (h1 : zH), post r h1 → zV w p l e R s m args below meth c nL (cells + 1) (slots + 6) Q (pc + 3) loc (zpush r rest) h1) : zV w p l e R s m args below meth c nL cells slots Q pc loc stk h := by
  obtain ⟨hx, hb, hml, hown, hts, hK⟩ := C
  obtain ⟨m2, m3, m5, m6, m7, m8⟩ := hm
  intro H locs ls hR1 hS hl hk ho
  have hM := hc (fun v hv => hk v (by rw [hs]; exact List.mem_append_left _ (List.mem_reverse.mpr hv)))
  have hT : GoodIn zw_T (va_wsS own idx y (Cond.codeWith y b n (some .int) hh :: zw_T)) := fun x hx => by
    have key : x ∈ zw_T := by
      unfold va_wsS at hx
      simp only [List.mem_append, List.mem_cons, List.not_mem_nil, or_false] at hx
      rcases hx with hx | hx | hx
      · rcases hx with rfl | rfl | rfl
        all_goals assumption
      · rw [hx]; exact m6
      · exact hx
    exact ⟨key, zw_T_good _ key⟩
  have hcall : vx_CSW R s args own idx y b n (some .int) hh (Cond.codeWith y b n (some .int) hh :: zw_T) (zRm1 fr lo) 1 6 k := vx_cwSW (ws' := zw_T) k hts hT rfl rfl rfl ⟨m7.1, m7.2, m8⟩ hR
  have hrun := vx_runSX (p := p) (l := l) (e := e) (R := R) (below := below) (meth := meth) (H := H) (locs := locs) (cells := cells) (slots := slots) (As := As.map zval) (rest := rest.map zval) (g := F0 m pc ls (stk.map zval)) ⟨hx, hb, hml, hown, hts⟩ hM hcall
    ⟨zPre_blind, fun U hU hW => ⟨rfl, zKn.warm hW hS hU hK, by rw [hU]; exact hR1⟩⟩ rfl (by rw [List.length_map]; exact hk8.1) hl.1 (by
      show stk.map zval = _
      rw [hs, List.map_append, List.map_reverse]) (lv_room (by rw [zsum_len]; exact hk8.2)) hd hcs
  have hrest : ∀ v ∈ rest, v ∈ stk := fun v hv => by rw [hs]; exact List.mem_append_right _ hv
  intro T hT X
  rcases hrun T hT X with ⟨v, st₀, t, T', L, h0, X', hL, e1, e2, ⟨⟨r, h1, hv, hp, hR2, hok⟩, hz, hkeep⟩, st⟩ | ⟨q, st₀, t, T', L, E, ce, h0, X', hL, e1, e2, hq, _⟩
  · have hv' : v = r.map zval := by cases hv; rfl
    subst hv'
    rw [h0] at hz hkeep
    obtain ⟨t2, a1, b1⟩ := kk r h1 hp T'.heap (locs ++ L) ls (by rw [e1]; exact hR2)
      ⟨Nat.le_trans hS.1 (by rw [e1]; exact hz), fun q h1 h2 => by rw [e1, hkeep q (Nat.lt_of_lt_of_le h1 hS.1) h2]; exact hS.2.1 q h1 h2, fun q hq => by
        rcases List.mem_append.mp hq with h | h
        · exact hS.2.2 q h
        · exact hL q h⟩ hl (fun u hu => by
          cases r with
          | none => exact hk u (hrest u hu)
          | some v =>
            rcases List.mem_cons.mp hu with rfl | hu
            · exact hok _ rfl
            · exact hk u (hrest u hu)) ho T' rfl X'
    rw [zpush_map] at a1
    exact ⟨t2, st t2 a1, b1⟩
  · exact hq.elim
/-- script[i + n] -/
theorem v_sarg (C : zC w p s m args c nL cc own) {xs : Nat → Int32} {b L i k : Nat} {n : Int} (S : zScr w s xs b L) (hi : i + 6 ≤ L) (hk6 : k < 6) (hn : n = (k : Int)) (d0 : decode cc pc = .ok (.aload_n 0, 1)) (d1 : decode cc (pc + 1) = .ok (.iload 4, 2)) (d2 : decode cc (pc + 3) = .ok (.iconst n, 1)) (d3 : decode cc (pc + 4) = .ok (.iadd, 1)) (d4 : decode cc (pc + 5) = .ok (.iaload, 1))
    (l0 : loc[0]? = some (some (.inr (30, b)))) (l4 : loc[4]? = some (some (.inl (i : Int)))) (kk : zV w p l e R s m args below meth c nL cells slots Q (pc + 6) loc (.inl (sx xs (i + k)) :: stk) h) : zV w p l e R s m args below meth c nL cells slots Q pc loc stk h := by
  refine v_aload_n (k := 0) C d0 l0 ?_
  refine v_iload C d1 l4 ?_
  refine v_iconst C d2 (by subst hn; simp only [Bool.and_eq_true, decide_eq_true_eq]; omega) ?_
  refine v_iadd C d3 ?_
  intro H locs ls hR hS hl hk ho
  obtain ⟨hx, hb, hml, hown, hts, hK⟩ := C
  obtain ⟨s1, s2, s3, s4⟩ := S
  have e1 : zw ((i : Int) + n) = ((i + k : Nat) : Int) := by rw [zw_id ⟨by omega, by omega⟩]; omega
  have hr : zR ((i + k : Nat) : Int) := ⟨by omega, by omega⟩
  rw [e1]
  have e2 : (zi ((i + k : Nat) : Int)).toNatClampNeg = i + k := by rw [zi_nat hr]; exact Int.toNat_natCast _
  refine va_sld hx hb s1 s2 s3 hS (zi_in hr (by omega) (by omega)) d4 ?_
  rw [e2, ← zi_of (xs (i + k))]
  exact kk H locs ls hR hS hl (zok_cons (v := .inl (sx xs (i + k))) (zR_of _) (zok_tl (zok_tl hk))) ho
theorem v_sld (C : zC w p s m args c nL cc own) {xs : Nat → Int32} {b L k : Nat} {j : Int} (S : zScr w s xs b L) (hk1 : k < L) (hj : j = (k : Int)) (d4 : decode cc pc = .ok (.iaload, 1))
    (kk : zV w p l e R s m args below meth c nL cells slots Q (pc + 1) loc (.inl (sx xs k) :: stk) h) : zV w p l e R s m args below meth c nL cells slots Q pc loc (.inl j :: .inr (30, b) :: stk) h := by
  intro H locs ls hR hS hl hk ho
  obtain ⟨hx, hb, hml, hown, hts, hK⟩ := C
  obtain ⟨s1, s2, s3, s4⟩ := S
  subst hj
  have hr : zR ((k : Nat) : Int) := ⟨by omega, by omega⟩
  have e2 : (zi ((k : Nat) : Int)).toNatClampNeg = k := by rw [zi_nat hr]; exact Int.toNat_natCast _
  refine va_sld hx hb s1 s2 s3 hS (zi_in hr (by omega) (by omega)) d4 ?_
  rw [e2, ← zi_of (xs k)]
  exact kk H locs ls hR hS hl (zok_cons (v := .inl (sx xs k)) (zR_of _) (zok_tl (zok_tl hk))) ho
theorem v_slen (C : zC w p s m args c nL cc own) {xs : Nat → Int32} {b L : Nat} (S : zScr w s xs b L) (hd : decode cc pc = .ok (.arraylength, 1))
    (kk : zV w p l e R s m args below meth c nL cells slots Q (pc + 1) loc (.inl (L : Int) :: stk) h) : zV w p l e R s m args below meth c nL cells slots Q pc loc (.inr (30, b) :: stk) h := by
  intro H locs ls hR hS hl hk ho
  obtain ⟨hx, hb, hml, hown, hts, hK⟩ := C
  obtain ⟨s1, s2, s3, s4⟩ := S
  refine va_slen hx hb s1 s2 s3 hS hd ?_
  have e1 : Int32.ofNat L = zi (L : Int) := by unfold zi; exact (Int32.ofInt_eq_ofNat).symm
  rw [e1]
  exact kk H locs ls hR hS hl (zok_cons (v := .inl (L : Int)) ⟨by omega, by omega⟩ (zok_tl hk)) ho
theorem lg_cmp_self (x : Int64) : lg_cmp x x = 0 := by simp [lg_cmp]
theorem w_lald (hx : p.tables.exec = Jvm.exec) (hb : c.code = cc) (hK : zKn w s) {a : Nat} {H : Heap} {locs : List Loc} {ls : Array Slot} {st : List Value} (hka : zwK w a = 22) (hR : zRel w h H) (hd : decode cc pc = .ok (.laload, 1))
    (kk : W p l e R s m args below meth c H locs cells slots Q (F0 m (pc + 1) ls (.long (Int64.ofInt (h.1 a 0)) :: st))) : W p l e R s m args below meth c H locs cells slots Q (F0 m pc ls (.int (zi 0) :: .ref a :: st)) := by
  have hka' : zwK w a = 21 + 1 := hka
  obtain ⟨q0, hi⟩ := hR.get hka' (by omega)
  have ht := ztys_at (w := w) (k := 21) (by omega) (by omega)
  have g3 : zar 21 = (1, 0, .long) := rfl
  have hc0 : zcont 21 h a = .inr (.inl (fun j => Int64.ofInt (h.1 a j))) := rfl
  rw [zE_arr hka' (by omega), hc0, g3] at hi
  rw [g3] at ht
  refine va_lald (f := fun j => Int64.ofInt (h.1 a j)) hx hb hK.1 hR.1 q0 (21 - 9) hi ht (zi_in zR_0 (Int.le_refl 0) (by decide)) hd ?_
  rw [zi_nat zR_0]
  exact kk
/-- out[0] != b is false -/
theorem v_cmpO (C : zC w p s m args c nL cc own) {o tgt : Nat} {v off : Int} (hv : h.1 o 0 = v) (d0 : decode cc pc = .ok (.laload, 1)) (d1 : decode cc (pc + 1) = .ok (.iload 6, 2)) (d2 : decode cc (pc + 3) = .ok (.i2l, 1)) (d3 : decode cc (pc + 4) = .ok (.lcmp, 1)) (d4 : decode cc (pc + 5) = .ok (.ifCond .eq off, 3)) (ht : ((pc + 5 : Nat) : Int) + off = (tgt : Int))
    (l6 : loc[6]? = some (some (.inl v))) (kk : zV w p l e R s m args below meth c nL cells slots Q tgt loc stk h) : zV w p l e R s m args below meth c nL cells slots Q pc loc (.inl 0 :: .inr (21, o) :: stk) h := by
  intro H locs ls hR hS hl hk ho
  obtain ⟨hx, hb, hml, hown, hts, hK⟩ := C
  have hka : zwK w o = 22 := zok_hd (zok_tl hk)
  have hvr : zR v := zok_loc ho l6
  refine w_lald hx hb hK hka hR d0 ?_
  refine lv_iload (x := zi v) hx hb d1 (zlo_get hl l6) ?_
  refine lv_i2l (v := Int64.ofInt v) hx hb d2 (zi_toInt64 hvr) ?_
  refine W.lcmp hx hb d3 ?_
  rw [hv, lg_cmp_self]
  exact lv_if_eq hx hb d4 ht (fun _ => kk H locs ls hR hS hl (zok_tl (zok_tl hk)) ho) (fun q => absurd rfl q)
/-- out[0] != (b ? 1L : 0L) is false -/
theorem v_cmpB (C : zC w p s m args c nL cc own) {o tgt t0 t1 : Nat} {v off o1 o2 : Int} (hv : h.1 o 0 = if v = 0 then 0 else 1) (d0 : decode cc pc = .ok (.laload, 1)) (d1 : decode cc (pc + 1) = .ok (.iload 6, 2)) (d2 : decode cc (pc + 3) = .ok (.ifCond .eq o1, 3)) (h2 : ((pc + 3 : Nat) : Int) + o1 = (t0 : Int)) (d3 : decode cc (pc + 6) = .ok (.lconst 1, 1)) (d4 : decode cc (pc + 7) = .ok (.goto o2, 3)) (h4 : ((pc + 7 : Nat) : Int) + o2 = (t1 : Int)) (d5 : decode cc t0 = .ok (.lconst 0, 1)) (h5 : t0 + 1 = t1) (d6 : decode cc t1 = .ok (.lcmp, 1)) (d7 : decode cc (t1 + 1) = .ok (.ifCond .eq off, 3)) (ht : ((t1 + 1 : Nat) : Int) + off = (tgt : Int))
    (l6 : loc[6]? = some (some (.inl v))) (kk : zV w p l e R s m args below meth c nL cells slots Q tgt loc stk h) : zV w p l e R s m args below meth c nL cells slots Q pc loc (.inl 0 :: .inr (21, o) :: stk) h := by
  intro H locs ls hR hS hl hk ho
  obtain ⟨hx, hb, hml, hown, hts, hK⟩ := C
  have hka : zwK w o = 22 := zok_hd (zok_tl hk)
  have hvr : zR v := zok_loc ho l6
  refine w_lald hx hb hK hka hR d0 ?_
  refine lv_iload (x := zi v) hx hb d1 (zlo_get hl l6) ?_
  have fin : ∀ y : Int64, Int64.ofInt (h.1 o 0) = y → W p l e R s m args below meth c H locs cells slots Q (F0 m t1 ls (.long y :: .long (Int64.ofInt (h.1 o 0)) :: stk.map zval)) := fun y hy => by
    refine W.lcmp hx hb d6 ?_
    rw [hy, lg_cmp_self]
    exact lv_if_eq hx hb d7 ht (fun _ => kk H locs ls hR hS hl (zok_tl (zok_tl hk)) ho) (fun q => absurd rfl q)
  refine lv_if_eq hx hb d2 h2 (fun q => ?_) (fun q => ?_)
  · have hv0 : v = 0 := (zi_eq hvr zR_0).mp (by rw [zi_0]; exact q)
    refine lv_lconst (v := Int64.ofInt 0) hx hb d5 (by decide) ?_
    rw [h5]
    exact fin _ (by rw [hv, if_pos hv0])
  · have hv0 : ¬ v = 0 := fun z => q (by rw [← zi_0]; exact (zi_eq hvr zR_0).mpr z)
    exact lv_lconst (v := Int64.ofInt 1) hx hb d3 (by decide) (lv_goto hx hb d4 h4 (fin _ (by rw [hv, if_neg hv0])))
end ZL
def zO_0 (h : zH) (X M : Nat) (a1 : Int) (a2 : Int) (a3 : Int) (a4 : Int) (a5 : Int) (h2 : zH) : Prop := ∃ (v : Int) (h1 : zH), q_X7_feed h X a1 a2 a3 a4 a5 = some (v, h1) ∧ q_X8_feed h1 M a1 a2 a3 a4 a5 = some (v, h2)
def zO_1 (h : zH) (X M : Nat) (a1 : Int) (h2 : zH) : Prop := ∃ (v : Int) (h1 : zH), q_X7_load h X a1 = some (v, h1) ∧ q_X8_load h1 M a1 = some (v, h2)
def zO_2 (h : zH) (X M : Nat) (h2 : zH) : Prop := ∃ v : Int, q_X7_errorPosition h X = some v ∧ q_X8_errorPosition h M = some (v, h2)
def zO_3 (h : zH) (X M : Nat) (h2 : zH) : Prop := ∃ v : Int, q_X7_stationCount h X = some v ∧ q_X8_stationCount h M = some (v, h2)
def zO_4 (h : zH) (X M : Nat) (h2 : zH) : Prop := ∃ v : Int, q_X7_callCount h X = some v ∧ q_X8_callCount h M = some (v, h2)
def zO_5 (h : zH) (X M : Nat) (h2 : zH) : Prop := ∃ v : Int, q_X7_carrierCount h X = some v ∧ q_X8_carrierCount h M = some (v, h2)
def zO_6 (h : zH) (X M : Nat) (h2 : zH) : Prop := ∃ v : Int, q_X7_undoCount h X = some v ∧ q_X8_undoCount h M = some (v, h2)
def zO_7 (h : zH) (X M : Nat) (a1 : Int) (h2 : zH) : Prop := ∃ v : Int, q_X7_stationNamed h X a1 = some v ∧ q_X8_stationNamed h M a1 = some (v, h2)
def zO_8 (h : zH) (X M : Nat) (h2 : zH) : Prop := ∃ v : Int, q_X7_now h X = some v ∧ q_X8_now h M = some (v, h2)
def zO_9 (h : zH) (X M : Nat) (a1 : Int) (h2 : zH) : Prop := ∃ v : Int, q_X7_getSetting h X a1 = some v ∧ q_X8_getSetting h M a1 = some (v, h2)
theorem mwL_156 : zMW RL 156 yL_fade cL_fade 5 [(0, 10, 13, 13)] 4 := ⟨zmem 833 (by decide +kernel), zmem 834 (by decide +kernel), zmem 69 (by decide +kernel), zmem 835 (by decide +kernel), ⟨by decide, by decide⟩, by decide +kernel⟩
def zO_10 (h : zH) (X M O : Nat) (a1 : Int) (a2 : Int) (h2 : zH) : Prop := (∃ v : Int, q_X7_fade h X a1 a2 = some v ∧ (q_X8_fade (zput h O 0 v) M a1 a2 = some (v, h2)) ∧ q_X8_thrown h2 M = some 0 ∧ h2.1 O 0 = v) ∨ (¬ (0 ≤ a1 ∧ a1 ≤ zw (h.1 (h.2 X 0) 3 - 1)) ∧ ∃ v : Int, (q_X8_fade h M a1 a2 = some (v, h2)) ∧ q_X8_thrown h2 M = some 1)
theorem mwL_165 : zMW RL 165 yL_power cL_power 4 [(0, 9, 12, 13)] 3 := ⟨zmem 911 (by decide +kernel), zmem 912 (by decide +kernel), zmem 69 (by decide +kernel), zmem 913 (by decide +kernel), ⟨by decide, by decide⟩, by decide +kernel⟩
def zO_11 (h : zH) (X M O : Nat) (a1 : Int) (h2 : zH) : Prop := (∃ v : Int, q_X7_power h X a1 = some v ∧ (q_X8_power (zput h O 0 v) M a1 = some (v, h2)) ∧ q_X8_thrown h2 M = some 0 ∧ h2.1 O 0 = v) ∨ (¬ (0 ≤ a1 ∧ a1 ≤ zw (h.1 (h.2 X 0) 3 - 1)) ∧ ∃ v : Int, (q_X8_power h M a1 = some (v, h2)) ∧ q_X8_thrown h2 M = some 1)
theorem mwL_169 : zMW RL 169 yL_timingError cL_timingError 4 [(0, 9, 12, 13)] 3 := ⟨zmem 918 (by decide +kernel), zmem 919 (by decide +kernel), zmem 69 (by decide +kernel), zmem 920 (by decide +kernel), ⟨by decide, by decide⟩, by decide +kernel⟩
def zO_12 (h : zH) (X M O : Nat) (a1 : Int) (h2 : zH) : Prop := (∃ v : Int, q_X7_timingError h X a1 = some v ∧ (q_X8_timingError (zput h O 0 v) M a1 = some (v, h2)) ∧ q_X8_thrown h2 M = some 0 ∧ h2.1 O 0 = v) ∨ (¬ (0 ≤ a1 ∧ a1 ≤ zw (h.1 (h.2 X 0) 3 - 1)) ∧ ∃ v : Int, (q_X8_timingError h M a1 = some (v, h2)) ∧ q_X8_thrown h2 M = some 1)
theorem mwL_172 : zMW RL 172 yL_roundTrip cL_roundTrip 4 [(0, 9, 12, 13)] 3 := ⟨zmem 926 (by decide +kernel), zmem 927 (by decide +kernel), zmem 69 (by decide +kernel), zmem 928 (by decide +kernel), ⟨by decide, by decide⟩, by decide +kernel⟩
def zO_13 (h : zH) (X M O : Nat) (a1 : Int) (h2 : zH) : Prop := (∃ v : Int, q_X7_roundTrip h X a1 = some v ∧ (q_X8_roundTrip (zput h O 0 v) M a1 = some (v, h2)) ∧ q_X8_thrown h2 M = some 0 ∧ h2.1 O 0 = v) ∨ (¬ (0 ≤ a1 ∧ a1 ≤ zw (h.1 (h.2 X 0) 3 - 1)) ∧ ∃ v : Int, (q_X8_roundTrip h M a1 = some (v, h2)) ∧ q_X8_thrown h2 M = some 1)
theorem mwL_175 : zMW RL 175 yL_timingFaults cL_timingFaults 4 [(0, 9, 12, 13)] 3 := ⟨zmem 934 (by decide +kernel), zmem 935 (by decide +kernel), zmem 69 (by decide +kernel), zmem 936 (by decide +kernel), ⟨by decide, by decide⟩, by decide +kernel⟩
def zO_14 (h : zH) (X M O : Nat) (a1 : Int) (h2 : zH) : Prop := (∃ v : Int, q_X7_timingFaults h X a1 = some v ∧ (q_X8_timingFaults (zput h O 0 v) M a1 = some (v, h2)) ∧ q_X8_thrown h2 M = some 0 ∧ h2.1 O 0 = v) ∨ (¬ (0 ≤ a1 ∧ a1 ≤ zw (h.1 (h.2 X 0) 3 - 1)) ∧ ∃ v : Int, (q_X8_timingFaults h M a1 = some (v, h2)) ∧ q_X8_thrown h2 M = some 1)
theorem mwL_178 : zMW RL 178 yL_stateOf cL_stateOf 4 [(0, 9, 12, 13)] 3 := ⟨zmem 941 (by decide +kernel), zmem 942 (by decide +kernel), zmem 69 (by decide +kernel), zmem 943 (by decide +kernel), ⟨by decide, by decide⟩, by decide +kernel⟩
def zO_15 (h : zH) (X M O : Nat) (a1 : Int) (h2 : zH) : Prop := (∃ v : Int, q_X7_stateOf h X a1 = some v ∧ (q_X8_stateOf (zput h O 0 v) M a1 = some (v, h2)) ∧ q_X8_thrown h2 M = some 0 ∧ h2.1 O 0 = v) ∨ (¬ (0 ≤ a1 ∧ a1 ≤ zw (h.1 (h.2 X 0) 7 - 1)) ∧ ∃ v : Int, (q_X8_stateOf h M a1 = some (v, h2)) ∧ q_X8_thrown h2 M = some 1)
theorem mwL_181 : zMW RL 181 yL_senderOf cL_senderOf 4 [(0, 9, 12, 13)] 3 := ⟨zmem 953 (by decide +kernel), zmem 954 (by decide +kernel), zmem 69 (by decide +kernel), zmem 955 (by decide +kernel), ⟨by decide, by decide⟩, by decide +kernel⟩
def zO_16 (h : zH) (X M O : Nat) (a1 : Int) (h2 : zH) : Prop := (∃ v : Int, q_X7_senderOf h X a1 = some v ∧ (q_X8_senderOf (zput h O 0 v) M a1 = some (v, h2)) ∧ q_X8_thrown h2 M = some 0 ∧ h2.1 O 0 = v) ∨ (¬ (0 ≤ a1 ∧ a1 ≤ zw (h.1 (h.2 X 0) 7 - 1)) ∧ ∃ v : Int, (q_X8_senderOf h M a1 = some (v, h2)) ∧ q_X8_thrown h2 M = some 1)
theorem mwL_184 : zMW RL 184 yL_receiverOf cL_receiverOf 4 [(0, 9, 12, 13)] 3 := ⟨zmem 960 (by decide +kernel), zmem 961 (by decide +kernel), zmem 69 (by decide +kernel), zmem 962 (by decide +kernel), ⟨by decide, by decide⟩, by decide +kernel⟩
def zO_17 (h : zH) (X M O : Nat) (a1 : Int) (h2 : zH) : Prop := (∃ v : Int, q_X7_receiverOf h X a1 = some v ∧ (q_X8_receiverOf (zput h O 0 v) M a1 = some (v, h2)) ∧ q_X8_thrown h2 M = some 0 ∧ h2.1 O 0 = v) ∨ (¬ (0 ≤ a1 ∧ a1 ≤ zw (h.1 (h.2 X 0) 7 - 1)) ∧ ∃ v : Int, (q_X8_receiverOf h M a1 = some (v, h2)) ∧ q_X8_thrown h2 M = some 1)
theorem mwL_187 : zMW RL 187 yL_carrierOf cL_carrierOf 4 [(0, 9, 12, 13)] 3 := ⟨zmem 967 (by decide +kernel), zmem 968 (by decide +kernel), zmem 69 (by decide +kernel), zmem 969 (by decide +kernel), ⟨by decide, by decide⟩, by decide +kernel⟩
def zO_18 (h : zH) (X M O : Nat) (a1 : Int) (h2 : zH) : Prop := (∃ v : Int, q_X7_carrierOf h X a1 = some v ∧ (q_X8_carrierOf (zput h O 0 v) M a1 = some (v, h2)) ∧ q_X8_thrown h2 M = some 0 ∧ h2.1 O 0 = v) ∨ (¬ (0 ≤ a1 ∧ a1 ≤ zw (h.1 (h.2 X 0) 7 - 1)) ∧ ∃ v : Int, (q_X8_carrierOf h M a1 = some (v, h2)) ∧ q_X8_thrown h2 M = some 1)
theorem mwL_190 : zMW RL 190 yL_startOf cL_startOf 4 [(0, 9, 12, 13)] 3 := ⟨zmem 974 (by decide +kernel), zmem 975 (by decide +kernel), zmem 69 (by decide +kernel), zmem 976 (by decide +kernel), ⟨by decide, by decide⟩, by decide +kernel⟩
def zO_19 (h : zH) (X M O : Nat) (a1 : Int) (h2 : zH) : Prop := (∃ v : Int, q_X7_startOf h X a1 = some v ∧ (q_X8_startOf (zput h O 0 v) M a1 = some (v, h2)) ∧ q_X8_thrown h2 M = some 0 ∧ h2.1 O 0 = v) ∨ (¬ (0 ≤ a1 ∧ a1 ≤ zw (h.1 (h.2 X 0) 7 - 1)) ∧ ∃ v : Int, (q_X8_startOf h M a1 = some (v, h2)) ∧ q_X8_thrown h2 M = some 1)
theorem mwL_193 : zMW RL 193 yL_burstOf cL_burstOf 4 [(0, 9, 12, 13)] 3 := ⟨zmem 981 (by decide +kernel), zmem 982 (by decide +kernel), zmem 69 (by decide +kernel), zmem 983 (by decide +kernel), ⟨by decide, by decide⟩, by decide +kernel⟩
def zO_20 (h : zH) (X M O : Nat) (a1 : Int) (h2 : zH) : Prop := (∃ v : Int, q_X7_burstOf h X a1 = some v ∧ (q_X8_burstOf (zput h O 0 v) M a1 = some (v, h2)) ∧ q_X8_thrown h2 M = some 0 ∧ h2.1 O 0 = v) ∨ (¬ (0 ≤ a1 ∧ a1 ≤ zw (h.1 (h.2 X 0) 7 - 1)) ∧ ∃ v : Int, (q_X8_burstOf h M a1 = some (v, h2)) ∧ q_X8_thrown h2 M = some 1)
theorem mwL_196 : zMW RL 196 yL_sendOffset cL_sendOffset 4 [(0, 9, 12, 13)] 3 := ⟨zmem 988 (by decide +kernel), zmem 989 (by decide +kernel), zmem 69 (by decide +kernel), zmem 990 (by decide +kernel), ⟨by decide, by decide⟩, by decide +kernel⟩
def zO_21 (h : zH) (X M O : Nat) (a1 : Int) (h2 : zH) : Prop := (∃ v : Int, q_X7_sendOffset h X a1 = some v ∧ (q_X8_sendOffset (zput h O 0 v) M a1 = some (v, h2)) ∧ q_X8_thrown h2 M = some 0 ∧ h2.1 O 0 = v) ∨ (¬ (0 ≤ a1 ∧ a1 ≤ zw (h.1 (h.2 X 0) 7 - 1)) ∧ ∃ v : Int, (q_X8_sendOffset h M a1 = some (v, h2)) ∧ q_X8_thrown h2 M = some 1)
theorem mwL_199 : zMW RL 199 yL_endOf cL_endOf 4 [(0, 9, 12, 13)] 3 := ⟨zmem 998 (by decide +kernel), zmem 999 (by decide +kernel), zmem 69 (by decide +kernel), zmem 1000 (by decide +kernel), ⟨by decide, by decide⟩, by decide +kernel⟩
def zO_22 (h : zH) (X M O : Nat) (a1 : Int) (h2 : zH) : Prop := (∃ v : Int, q_X7_endOf h X a1 = some v ∧ (q_X8_endOf (zput h O 0 v) M a1 = some (v, h2)) ∧ q_X8_thrown h2 M = some 0 ∧ h2.1 O 0 = v) ∨ (¬ (0 ≤ a1 ∧ a1 ≤ zw (h.1 (h.2 X 0) 7 - 1)) ∧ ∃ v : Int, (q_X8_endOf h M a1 = some (v, h2)) ∧ q_X8_thrown h2 M = some 1)
theorem mwL_202 : zMW RL 202 yL_waitOf cL_waitOf 4 [(0, 9, 12, 13)] 3 := ⟨zmem 1005 (by decide +kernel), zmem 1006 (by decide +kernel), zmem 69 (by decide +kernel), zmem 1007 (by decide +kernel), ⟨by decide, by decide⟩, by decide +kernel⟩
def zO_23 (h : zH) (X M O : Nat) (a1 : Int) (h2 : zH) : Prop := (∃ v : Int, q_X7_waitOf h X a1 = some v ∧ (q_X8_waitOf (zput h O 0 v) M a1 = some (v, h2)) ∧ q_X8_thrown h2 M = some 0 ∧ h2.1 O 0 = v) ∨ (¬ (0 ≤ a1 ∧ a1 ≤ zw (h.1 (h.2 X 0) 7 - 1)) ∧ ∃ v : Int, (q_X8_waitOf h M a1 = some (v, h2)) ∧ q_X8_thrown h2 M = some 1)
theorem mwL_205 : zMW RL 205 yL_marginOf cL_marginOf 4 [(0, 9, 12, 13)] 3 := ⟨zmem 1012 (by decide +kernel), zmem 1013 (by decide +kernel), zmem 69 (by decide +kernel), zmem 1014 (by decide +kernel), ⟨by decide, by decide⟩, by decide +kernel⟩
def zO_24 (h : zH) (X M O : Nat) (a1 : Int) (h2 : zH) : Prop := (∃ v : Int, q_X7_marginOf h X a1 = some v ∧ (q_X8_marginOf (zput h O 0 v) M a1 = some (v, h2)) ∧ q_X8_thrown h2 M = some 0 ∧ h2.1 O 0 = v) ∨ (¬ (0 ≤ a1 ∧ a1 ≤ zw (h.1 (h.2 X 0) 7 - 1)) ∧ ∃ v : Int, (q_X8_marginOf h M a1 = some (v, h2)) ∧ q_X8_thrown h2 M = some 1)
theorem mwL_208 : zMW RL 208 yL_degradedFrames cL_degradedFrames 4 [(0, 9, 12, 13)] 3 := ⟨zmem 1020 (by decide +kernel), zmem 1021 (by decide +kernel), zmem 69 (by decide +kernel), zmem 1022 (by decide +kernel), ⟨by decide, by decide⟩, by decide +kernel⟩
def zO_25 (h : zH) (X M O : Nat) (a1 : Int) (h2 : zH) : Prop := (∃ v : Int, q_X7_degradedFrames h X a1 = some v ∧ (q_X8_degradedFrames (zput h O 0 v) M a1 = some (v, h2)) ∧ q_X8_thrown h2 M = some 0 ∧ h2.1 O 0 = v) ∨ (¬ (0 ≤ a1 ∧ a1 ≤ zw (h.1 (h.2 X 0) 7 - 1)) ∧ ∃ v : Int, (q_X8_degradedFrames h M a1 = some (v, h2)) ∧ q_X8_thrown h2 M = some 1)
def zO_26 (h : zH) (X M : Nat) (a1 : Int) (h2 : zH) : Prop := ∃ v : Int, q_X7_queuedAt h X a1 = some v ∧ q_X8_queuedAt h M a1 = some (v, h2)
def zO_27 (h : zH) (X M : Nat) (h2 : zH) : Prop := ∃ v : Int, q_X7_queueLength h X = some v ∧ q_X8_queueLength h M = some (v, h2)
theorem mwL_219 : zMW RL 219 yL_callsOn cL_callsOn 4 [(0, 9, 12, 13)] 3 := ⟨zmem 1027 (by decide +kernel), zmem 1028 (by decide +kernel), zmem 69 (by decide +kernel), zmem 1029 (by decide +kernel), ⟨by decide, by decide⟩, by decide +kernel⟩
def zO_28 (h : zH) (X M O : Nat) (a1 : Int) (h2 : zH) : Prop := (∃ v : Int, q_X7_callsOn h X a1 = some v ∧ (q_X8_callsOn (zput h O 0 v) M a1 = some (v, h2)) ∧ q_X8_thrown h2 M = some 0 ∧ h2.1 O 0 = v) ∨ (¬ (0 ≤ a1 ∧ a1 ≤ zw (h.1 (h.2 X 0) 1 - 1)) ∧ ∃ v : Int, (q_X8_callsOn h M a1 = some (v, h2)) ∧ q_X8_thrown h2 M = some 1)
theorem mwL_222 : zMW RL 222 yL_usedSymbols cL_usedSymbols 4 [(0, 9, 12, 13)] 3 := ⟨zmem 1043 (by decide +kernel), zmem 1044 (by decide +kernel), zmem 69 (by decide +kernel), zmem 1045 (by decide +kernel), ⟨by decide, by decide⟩, by decide +kernel⟩
def zO_29 (h : zH) (X M O : Nat) (a1 : Int) (h2 : zH) : Prop := (∃ v : Int, q_X7_usedSymbols h X a1 = some v ∧ (q_X8_usedSymbols (zput h O 0 v) M a1 = some (v, h2)) ∧ q_X8_thrown h2 M = some 0 ∧ h2.1 O 0 = v) ∨ (¬ (0 ≤ a1 ∧ a1 ≤ zw (h.1 (h.2 X 0) 1 - 1)) ∧ ∃ v : Int, (q_X8_usedSymbols h M a1 = some (v, h2)) ∧ q_X8_thrown h2 M = some 1)
theorem mwL_225 : zMW RL 225 yL_callAt cL_callAt 5 [(0, 10, 13, 13)] 4 := ⟨zmem 1050 (by decide +kernel), zmem 1051 (by decide +kernel), zmem 69 (by decide +kernel), zmem 1052 (by decide +kernel), ⟨by decide, by decide⟩, by decide +kernel⟩
def zO_30 (h : zH) (X M O : Nat) (a1 : Int) (a2 : Int) (h2 : zH) : Prop := (∃ v : Int, q_X7_callAt h X a1 a2 = some v ∧ (q_X8_callAt (zput h O 0 v) M a1 a2 = some (v, h2)) ∧ q_X8_thrown h2 M = some 0 ∧ h2.1 O 0 = v) ∨ (¬ (0 ≤ a1 ∧ a1 ≤ zw (h.1 (h.2 X 0) 1 - 1)) ∧ ∃ v : Int, (q_X8_callAt h M a1 a2 = some (v, h2)) ∧ q_X8_thrown h2 M = some 1)
theorem mwL_228 : zMW RL 228 yL_longestFit cL_longestFit 4 [(0, 9, 12, 13)] 3 := ⟨zmem 1062 (by decide +kernel), zmem 1063 (by decide +kernel), zmem 69 (by decide +kernel), zmem 1064 (by decide +kernel), ⟨by decide, by decide⟩, by decide +kernel⟩
def zO_31 (h : zH) (X M O : Nat) (a1 : Int) (h2 : zH) : Prop := (∃ v : Int, q_X7_longestFit h X a1 = some v ∧ (q_X8_longestFit (zput h O 0 v) M a1 = some (v, h2)) ∧ q_X8_thrown h2 M = some 0 ∧ h2.1 O 0 = v) ∨ (¬ (0 ≤ a1 ∧ a1 ≤ zw (h.1 (h.2 X 0) 1 - 1)) ∧ ∃ v : Int, (q_X8_longestFit h M a1 = some (v, h2)) ∧ q_X8_thrown h2 M = some 1)
def zO_32 (h : zH) (X M : Nat) (h2 : zH) : Prop := ∃ v : Int, q_X7_nextEnd h X = some v ∧ q_X8_nextEnd h M = some (v, h2)
theorem mwL_235 : zMW RL 235 yL_fitsWithout cL_fitsWithout 5 [(0, 17, 20, 13)] 4 := ⟨zmem 1077 (by decide +kernel), zmem 1078 (by decide +kernel), zmem 69 (by decide +kernel), zmem 1079 (by decide +kernel), ⟨by decide, by decide⟩, by decide +kernel⟩
def zO_33 (h : zH) (X M O : Nat) (a1 : Int) (a2 : Int) (h2 : zH) : Prop := (∃ v : Int, q_X7_fitsWithout h X a1 a2 = some v ∧ (q_X8_fitsWithout (zput h O 0 (if v = 0 then 0 else 1)) M a1 a2 = some (v, h2)) ∧ q_X8_thrown h2 M = some 0 ∧ h2.1 O 0 = (if v = 0 then 0 else 1)) ∨ (¬ (0 ≤ a1 ∧ a1 ≤ zw (h.1 (h.2 X 0) 7 - 1)) ∧ ∃ v : Int, (q_X8_fitsWithout h M a1 a2 = some (v, h2)) ∧ q_X8_thrown h2 M = some 1)
theorem mwL_238 : zMW RL 238 yL_callsToDrop cL_callsToDrop 4 [(0, 9, 12, 13)] 3 := ⟨zmem 1085 (by decide +kernel), zmem 1086 (by decide +kernel), zmem 69 (by decide +kernel), zmem 1087 (by decide +kernel), ⟨by decide, by decide⟩, by decide +kernel⟩
def zO_34 (h : zH) (X M O : Nat) (a1 : Int) (h2 : zH) : Prop := (∃ v : Int, q_X7_callsToDrop h X a1 = some v ∧ (q_X8_callsToDrop (zput h O 0 v) M a1 = some (v, h2)) ∧ q_X8_thrown h2 M = some 0 ∧ h2.1 O 0 = v) ∨ (¬ (0 ≤ a1 ∧ a1 ≤ zw (h.1 (h.2 X 0) 7 - 1)) ∧ ∃ v : Int, (q_X8_callsToDrop h M a1 = some (v, h2)) ∧ q_X8_thrown h2 M = some 1)
def zO_35 (h : zH) (X M : Nat) (h2 : zH) : Prop := ∃ (v : Int) (h1 : zH), q_X7_carriersNeeded h X = some (v, h1) ∧ q_X8_carriersNeeded h1 M = some (v, h2)
theorem mwL_245 : zMW RL 245 yL_clearFrame cL_clearFrame 4 [(0, 9, 12, 13)] 3 := ⟨zmem 1103 (by decide +kernel), zmem 1104 (by decide +kernel), zmem 69 (by decide +kernel), zmem 1105 (by decide +kernel), ⟨by decide, by decide⟩, by decide +kernel⟩
def zO_36 (h : zH) (X M O : Nat) (a1 : Int) (h2 : zH) : Prop := (∃ v : Int, q_X7_clearFrame h X a1 = some v ∧ (q_X8_clearFrame (zput h O 0 v) M a1 = some (v, h2)) ∧ q_X8_thrown h2 M = some 0 ∧ h2.1 O 0 = v) ∨ (¬ (0 ≤ a1 ∧ a1 ≤ zw (h.1 (h.2 X 0) 7 - 1)) ∧ ∃ v : Int, (q_X8_clearFrame h M a1 = some (v, h2)) ∧ q_X8_thrown h2 M = some 1)
def zO_37 (h : zH) (X M : Nat) (a1 : Int) (a2 : Int) (a3 : Int) (a4 : Int) (a5 : Int) (h2 : zH) : Prop := ∃ (v : Int) (h1 : zH), q_X7_request h X a1 a2 a3 a4 a5 = some (v, h1) ∧ q_X8_request h1 M a1 a2 a3 a4 a5 = some (v, h2)
def zO_38 (h : zH) (X M : Nat) (a1 : Int) (h2 : zH) : Prop := ∃ (v : Int) (h1 : zH), q_X7_release h X a1 = some (v, h1) ∧ q_X8_release h1 M a1 = some (v, h2)
def zO_39 (h : zH) (X M : Nat) (a1 : Int) (h2 : zH) : Prop := ∃ (v : Int) (h1 : zH), q_X7_advance h X a1 = some (v, h1) ∧ q_X8_advance h1 M a1 = some (v, h2)
def zO_40 (h : zH) (X M : Nat) (a1 : Int) (a2 : Int) (h2 : zH) : Prop := ∃ (v : Int) (h1 : zH), q_X7_setSetting h X a1 a2 = some (v, h1) ∧ q_X8_setSetting h1 M a1 a2 = some (v, h2)
def zO_41 (h : zH) (X M : Nat) (a1 : Int) (h2 : zH) : Prop := ∃ (v : Int) (h1 : zH), q_X7_acquire h X a1 = some (v, h1) ∧ q_X8_acquire h1 M a1 = some (v, h2)
def zO_42 (h : zH) (X M : Nat) (h2 : zH) : Prop := ∃ (v : Int) (h1 : zH), q_X7_compact h X = some (v, h1) ∧ q_X8_compact h1 M = some (v, h2)
def zO_43 (h : zH) (X M : Nat) (h2 : zH) : Prop := ∃ (v : Int) (h1 : zH), q_X7_undo h X = some (v, h1) ∧ q_X8_undo h1 M = some (v, h2)
theorem mwL_277 : zMW RL 277 yL_callOver cL_callOver 5 [(0, 10, 13, 13)] 4 := ⟨zmem 1113 (by decide +kernel), zmem 1114 (by decide +kernel), zmem 69 (by decide +kernel), zmem 1115 (by decide +kernel), ⟨by decide, by decide⟩, by decide +kernel⟩
def zO_44 (h : zH) (X M O : Nat) (a1 : Int) (a2 : Int) (h2 : zH) : Prop := (∃ v : Int, q_X7_callOver h X a1 a2 = some v ∧ (q_X8_callOver (zput h O 0 v) M a1 a2 = some (v, h2)) ∧ q_X8_thrown h2 M = some 0 ∧ h2.1 O 0 = v) ∨ (¬ (0 ≤ a1 ∧ a1 ≤ zw (h.1 (h.2 X 0) 1 - 1)) ∧ ∃ v : Int, (q_X8_callOver h M a1 a2 = some (v, h2)) ∧ q_X8_thrown h2 M = some 1)
theorem mwL_280 : zMW RL 280 yL_earliestStart cL_earliestStart 5 [(0, 10, 13, 13)] 4 := ⟨zmem 1120 (by decide +kernel), zmem 1121 (by decide +kernel), zmem 69 (by decide +kernel), zmem 1122 (by decide +kernel), ⟨by decide, by decide⟩, by decide +kernel⟩
def zO_45 (h : zH) (X M O : Nat) (a1 : Int) (a2 : Int) (h2 : zH) : Prop := (∃ v : Int, q_X7_earliestStart h X a1 a2 = some v ∧ (q_X8_earliestStart (zput h O 0 v) M a1 a2 = some (v, h2)) ∧ q_X8_thrown h2 M = some 0 ∧ h2.1 O 0 = v) ∨ (¬ (0 ≤ a1 ∧ a1 ≤ zw (h.1 (h.2 X 0) 7 - 1)) ∧ ∃ v : Int, (q_X8_earliestStart h M a1 a2 = some (v, h2)) ∧ q_X8_thrown h2 M = some 1) ∨ ((∃ r0 : Nat, q_X7_checkedCall h X a1 = some r0) ∧ ¬ (0 ≤ a2 ∧ a2 ≤ zw (h.1 (h.2 X 0) 1 - 1)) ∧ ∃ v : Int, (q_X8_earliestStart h M a1 a2 = some (v, h2)) ∧ q_X8_thrown h2 M = some 1)
theorem mwL_283 : zMW RL 283 yL_conflicts cL_conflicts 4 [(0, 9, 12, 13)] 3 := ⟨zmem 1127 (by decide +kernel), zmem 1128 (by decide +kernel), zmem 69 (by decide +kernel), zmem 1129 (by decide +kernel), ⟨by decide, by decide⟩, by decide +kernel⟩
def zO_46 (h : zH) (X M O : Nat) (a1 : Int) (h2 : zH) : Prop := (∃ v : Int, q_X7_conflicts h X a1 = some v ∧ (q_X8_conflicts (zput h O 0 v) M a1 = some (v, h2)) ∧ q_X8_thrown h2 M = some 0 ∧ h2.1 O 0 = v) ∨ (¬ (0 ≤ a1 ∧ a1 ≤ zw (h.1 (h.2 X 0) 7 - 1)) ∧ ∃ v : Int, (q_X8_conflicts h M a1 = some (v, h2)) ∧ q_X8_thrown h2 M = some 1)
def zO_47 (h : zH) (X M : Nat) (h2 : zH) : Prop := ∃ v : Int, q_X7_busiestStation h X = some v ∧ q_X8_busiestStation h M = some (v, h2)
theorem mwL_290 : zMW RL 290 yL_loadOf cL_loadOf 4 [(0, 9, 12, 13)] 3 := ⟨zmem 1135 (by decide +kernel), zmem 1136 (by decide +kernel), zmem 69 (by decide +kernel), zmem 1137 (by decide +kernel), ⟨by decide, by decide⟩, by decide +kernel⟩
def zO_48 (h : zH) (X M O : Nat) (a1 : Int) (h2 : zH) : Prop := (∃ v : Int, q_X7_loadOf h X a1 = some v ∧ (q_X8_loadOf (zput h O 0 v) M a1 = some (v, h2)) ∧ q_X8_thrown h2 M = some 0 ∧ h2.1 O 0 = v) ∨ (¬ (0 ≤ a1 ∧ a1 ≤ zw (h.1 (h.2 X 0) 3 - 1)) ∧ ∃ v : Int, (q_X8_loadOf h M a1 = some (v, h2)) ∧ q_X8_thrown h2 M = some 1)
theorem mwL_293 : zMW RL 293 yL_errorAfter cL_errorAfter 5 [(0, 10, 13, 13)] 4 := ⟨zmem 1142 (by decide +kernel), zmem 1143 (by decide +kernel), zmem 69 (by decide +kernel), zmem 1144 (by decide +kernel), ⟨by decide, by decide⟩, by decide +kernel⟩
def zO_49 (h : zH) (X M O : Nat) (a1 : Int) (a2 : Int) (h2 : zH) : Prop := (∃ (v : Int) (h1 : zH), q_X7_errorAfter h X a1 a2 = some (v, h1) ∧ (q_X8_errorAfter (zput h1 O 0 v) M a1 a2 = some (v, h2)) ∧ q_X8_thrown h2 M = some 0 ∧ h2.1 O 0 = v) ∨ (¬ (0 ≤ a1 ∧ a1 ≤ zw (h.1 (h.2 X 0) 3 - 1)) ∧ ∃ v : Int, (q_X8_errorAfter h M a1 a2 = some (v, h2)) ∧ q_X8_thrown h2 M = some 1)
theorem mwL_296 : zMW RL 296 yL_powerAfter cL_powerAfter 5 [(0, 10, 13, 13)] 4 := ⟨zmem 1152 (by decide +kernel), zmem 1153 (by decide +kernel), zmem 69 (by decide +kernel), zmem 1154 (by decide +kernel), ⟨by decide, by decide⟩, by decide +kernel⟩
def zO_50 (h : zH) (X M O : Nat) (a1 : Int) (a2 : Int) (h2 : zH) : Prop := (∃ v : Int, q_X7_powerAfter h X a1 a2 = some v ∧ (q_X8_powerAfter (zput h O 0 v) M a1 a2 = some (v, h2)) ∧ q_X8_thrown h2 M = some 0 ∧ h2.1 O 0 = v) ∨ (¬ (0 ≤ a1 ∧ a1 ≤ zw (h.1 (h.2 X 0) 3 - 1)) ∧ ∃ v : Int, (q_X8_powerAfter h M a1 a2 = some (v, h2)) ∧ q_X8_thrown h2 M = some 1)
theorem mwL_299 : zMW RL 299 yL_framesInTime cL_framesInTime 4 [(0, 9, 12, 13)] 3 := ⟨zmem 1159 (by decide +kernel), zmem 1160 (by decide +kernel), zmem 69 (by decide +kernel), zmem 1161 (by decide +kernel), ⟨by decide, by decide⟩, by decide +kernel⟩
def zO_51 (h : zH) (X M O : Nat) (a1 : Int) (h2 : zH) : Prop := (∃ (v : Int) (h1 : zH), q_X7_framesInTime h X a1 = some (v, h1) ∧ (q_X8_framesInTime (zput h1 O 0 v) M a1 = some (v, h2)) ∧ q_X8_thrown h2 M = some 0 ∧ h2.1 O 0 = v) ∨ (¬ (0 ≤ a1 ∧ a1 ≤ zw (h.1 (h.2 X 0) 3 - 1)) ∧ ∃ v : Int, (q_X8_framesInTime h M a1 = some (v, h2)) ∧ q_X8_thrown h2 M = some 1)
def zO_52 (h : zH) (X M : Nat) (h2 : zH) : Prop := ∃ v : Int, q_X7_degradedNow h X = some v ∧ q_X8_degradedNow h M = some (v, h2)
theorem mwL_306 : zMW RL 306 yL_framesToWait cL_framesToWait 4 [(0, 9, 12, 13)] 3 := ⟨zmem 1167 (by decide +kernel), zmem 1168 (by decide +kernel), zmem 69 (by decide +kernel), zmem 1169 (by decide +kernel), ⟨by decide, by decide⟩, by decide +kernel⟩
def zO_53 (h : zH) (X M O : Nat) (a1 : Int) (h2 : zH) : Prop := (∃ (v : Int) (h1 : zH), q_X7_framesToWait h X a1 = some (v, h1) ∧ (q_X8_framesToWait (zput h1 O 0 v) M a1 = some (v, h2)) ∧ q_X8_thrown h2 M = some 0 ∧ h2.1 O 0 = v) ∨ (¬ (0 ≤ a1 ∧ a1 ≤ zw (h.1 (h.2 X 0) 7 - 1)) ∧ ∃ v : Int, (q_X8_framesToWait h M a1 = some (v, h2)) ∧ q_X8_thrown h2 M = some 1)
theorem mwL_309 : zMW RL 309 yL_priorityOf cL_priorityOf 4 [(0, 9, 12, 13)] 3 := ⟨zmem 1175 (by decide +kernel), zmem 1176 (by decide +kernel), zmem 69 (by decide +kernel), zmem 1177 (by decide +kernel), ⟨by decide, by decide⟩, by decide +kernel⟩
def zO_54 (h : zH) (X M O : Nat) (a1 : Int) (h2 : zH) : Prop := (∃ v : Int, q_X7_priorityOf h X a1 = some v ∧ (q_X8_priorityOf (zput h O 0 v) M a1 = some (v, h2)) ∧ q_X8_thrown h2 M = some 0 ∧ h2.1 O 0 = v) ∨ (¬ (0 ≤ a1 ∧ a1 ≤ zw (h.1 (h.2 X 0) 7 - 1)) ∧ ∃ v : Int, (q_X8_priorityOf h M a1 = some (v, h2)) ∧ q_X8_thrown h2 M = some 1)
section LC
variable {w : zW} {p : Program} {l : Launch} {e : Env} {s : State} {m : MethodId} {args : Array Value} {below : List Frame} {meth : Method} {c : Code} {cells slots : Nat} {Q : State → Prop} {xs : Nat → Int32} {b L i X M O : Nat} {h h2 : zH}
theorem lc_0 (C : zC w p s m args c 7 cL_law RL) (S : zScr w s xs b L) (hi : i + 6 ≤ L) (hcs : cells + 1 ≤ 601024 ∧ slots + 6 ≤ 7293033) (hop : zO_0 h X M (sx xs (i + 1)) (sx xs (i + 2)) (sx xs (i + 3)) (sx xs (i + 4)) (sx xs (i + 5)) h2)
    (kk : zV w p l e room_1 s m args below meth c 7 (cells + 1) (slots + 6) Q 2686 (zloc b X M O i) [] h2) : zV w p l e room_1 s m args below meth c 7 cells slots Q 276 (zloc b X M O i) [] h := by
  obtain ⟨v, h1, g1, g2⟩ := hop
  refine v_more (Nat.le_succ _) (Nat.le_add_right _ 6) ?_
  refine v_aload_n C dL_law_276 rfl ?_
  refine v_sarg (k := 1) C S hi (by decide) rfl dL_law_277 dL_law_278 dL_law_280 dL_law_281 dL_law_282 rfl rfl ?_
  refine v_sarg (k := 2) C S hi (by decide) rfl dL_law_283 dL_law_284 dL_law_286 dL_law_287 dL_law_288 rfl rfl ?_
  refine v_sarg (k := 3) C S hi (by decide) rfl dL_law_289 dL_law_290 dL_law_292 dL_law_293 dL_law_294 rfl rfl ?_
  refine v_sarg (k := 4) C S hi (by decide) rfl dL_law_295 dL_law_296 dL_law_298 dL_law_299 dL_law_300 rfl rfl ?_
  refine v_sarg (k := 5) C S hi (by decide) rfl dL_law_301 dL_law_302 dL_law_304 dL_law_305 dL_law_306 rfl rfl ?_
  refine v_callV (k := 5) C dL_law_307 mvL_114 (cq_X7_feed w l _ _ _ _ _ _ _ v h1 g1) rfl ⟨by decide, by decide⟩ hcs ⟨rfl, Nat.le_of_ble_eq_true rfl⟩ (fun r1 h9 q => ?_)
  rw [q.1, q.2]
  refine v_aload_n C dL_law_310 rfl ?_
  refine v_sarg (k := 1) C S hi (by decide) rfl dL_law_311 dL_law_312 dL_law_314 dL_law_315 dL_law_316 rfl rfl ?_
  refine v_sarg (k := 2) C S hi (by decide) rfl dL_law_317 dL_law_318 dL_law_320 dL_law_321 dL_law_322 rfl rfl ?_
  refine v_sarg (k := 3) C S hi (by decide) rfl dL_law_323 dL_law_324 dL_law_326 dL_law_327 dL_law_328 rfl rfl ?_
  refine v_sarg (k := 4) C S hi (by decide) rfl dL_law_329 dL_law_330 dL_law_332 dL_law_333 dL_law_334 rfl rfl ?_
  refine v_sarg (k := 5) C S hi (by decide) rfl dL_law_335 dL_law_336 dL_law_338 dL_law_339 dL_law_340 rfl rfl ?_
  refine v_callV (k := 5) C dL_law_341 mvL_118 (cq_X8_feed w l _ _ _ _ _ _ _ v h2 g2) rfl ⟨by decide, by decide⟩ hcs ⟨rfl, Nat.le_of_ble_eq_true rfl⟩ (fun r2 h9 q => ?_)
  rw [q.1, q.2]
  exact v_icmp_eq C dL_law_344 (tgt := 2686) (by decide) (fun _ => kk) (fun z => absurd rfl z)
theorem lc_1 (C : zC w p s m args c 7 cL_law RL) (S : zScr w s xs b L) (hi : i + 6 ≤ L) (hcs : cells + 1 ≤ 601024 ∧ slots + 6 ≤ 7293033) (hop : zO_1 h X M (sx xs (i + 1)) h2)
    (kk : zV w p l e room_1 s m args below meth c 7 (cells + 1) (slots + 6) Q 2686 (zloc b X M O i) [] h2) : zV w p l e room_1 s m args below meth c 7 cells slots Q 349 (zloc b X M O i) [] h := by
  obtain ⟨v, h1, g1, g2⟩ := hop
  refine v_more (Nat.le_succ _) (Nat.le_add_right _ 6) ?_
  refine v_aload_n C dL_law_349 rfl ?_
  refine v_sarg (k := 1) C S hi (by decide) rfl dL_law_350 dL_law_351 dL_law_353 dL_law_354 dL_law_355 rfl rfl ?_
  refine v_callV (k := 1) C dL_law_356 mvL_119 (cq_X7_load w l _ _ _ v h1 g1) rfl ⟨by decide, by decide⟩ hcs ⟨rfl, Nat.le_of_ble_eq_true rfl⟩ (fun r1 h9 q => ?_)
  rw [q.1, q.2]
  refine v_aload_n C dL_law_359 rfl ?_
  refine v_sarg (k := 1) C S hi (by decide) rfl dL_law_360 dL_law_361 dL_law_363 dL_law_364 dL_law_365 rfl rfl ?_
  refine v_callV (k := 1) C dL_law_366 mvL_122 (cq_X8_load w l _ _ _ v h2 g2) rfl ⟨by decide, by decide⟩ hcs ⟨rfl, Nat.le_of_ble_eq_true rfl⟩ (fun r2 h9 q => ?_)
  rw [q.1, q.2]
  exact v_icmp_eq C dL_law_369 (tgt := 2686) (by decide) (fun _ => kk) (fun z => absurd rfl z)
theorem lc_2 (C : zC w p s m args c 7 cL_law RL) (S : zScr w s xs b L) (hi : i + 6 ≤ L) (hcs : cells + 1 ≤ 601024 ∧ slots + 6 ≤ 7293033) (hop : zO_2 h X M  h2)
    (kk : zV w p l e room_1 s m args below meth c 7 (cells + 1) (slots + 6) Q 2686 (zloc b X M O i) [] h2) : zV w p l e room_1 s m args below meth c 7 cells slots Q 374 (zloc b X M O i) [] h := by
  obtain ⟨v, g1, g2⟩ := hop
  refine v_more (Nat.le_succ _) (Nat.le_add_right _ 6) ?_
  refine v_aload_n C dL_law_374 rfl ?_
  refine v_callV (k := 0) C dL_law_375 mvL_123 (cq_X7_errorPosition w l _ _ v g1) rfl ⟨by decide, by decide⟩ hcs ⟨rfl, Nat.le_of_ble_eq_true rfl⟩ (fun r1 h9 q => ?_)
  rw [q.1, q.2]
  refine v_aload_n C dL_law_378 rfl ?_
  refine v_callV (k := 0) C dL_law_379 mvL_127 (cq_X8_errorPosition w l _ _ v h2 g2) rfl ⟨by decide, by decide⟩ hcs ⟨rfl, Nat.le_of_ble_eq_true rfl⟩ (fun r2 h9 q => ?_)
  rw [q.1, q.2]
  exact v_icmp_eq C dL_law_382 (tgt := 2686) (by decide) (fun _ => kk) (fun z => absurd rfl z)
theorem lc_3 (C : zC w p s m args c 7 cL_law RL) (S : zScr w s xs b L) (hi : i + 6 ≤ L) (hcs : cells + 1 ≤ 601024 ∧ slots + 6 ≤ 7293033) (hop : zO_3 h X M  h2)
    (kk : zV w p l e room_1 s m args below meth c 7 (cells + 1) (slots + 6) Q 2686 (zloc b X M O i) [] h2) : zV w p l e room_1 s m args below meth c 7 cells slots Q 387 (zloc b X M O i) [] h := by
  obtain ⟨v, g1, g2⟩ := hop
  refine v_more (Nat.le_succ _) (Nat.le_add_right _ 6) ?_
  refine v_aload_n C dL_law_387 rfl ?_
  refine v_callV (k := 0) C dL_law_388 mvL_128 (cq_X7_stationCount w l _ _ v g1) rfl ⟨by decide, by decide⟩ hcs ⟨rfl, Nat.le_of_ble_eq_true rfl⟩ (fun r1 h9 q => ?_)
  rw [q.1, q.2]
  refine v_aload_n C dL_law_391 rfl ?_
  refine v_callV (k := 0) C dL_law_392 mvL_131 (cq_X8_stationCount w l _ _ v h2 g2) rfl ⟨by decide, by decide⟩ hcs ⟨rfl, Nat.le_of_ble_eq_true rfl⟩ (fun r2 h9 q => ?_)
  rw [q.1, q.2]
  exact v_icmp_eq C dL_law_395 (tgt := 2686) (by decide) (fun _ => kk) (fun z => absurd rfl z)
theorem lc_4 (C : zC w p s m args c 7 cL_law RL) (S : zScr w s xs b L) (hi : i + 6 ≤ L) (hcs : cells + 1 ≤ 601024 ∧ slots + 6 ≤ 7293033) (hop : zO_4 h X M  h2)
    (kk : zV w p l e room_1 s m args below meth c 7 (cells + 1) (slots + 6) Q 2686 (zloc b X M O i) [] h2) : zV w p l e room_1 s m args below meth c 7 cells slots Q 400 (zloc b X M O i) [] h := by
  obtain ⟨v, g1, g2⟩ := hop
  refine v_more (Nat.le_succ _) (Nat.le_add_right _ 6) ?_
  refine v_aload_n C dL_law_400 rfl ?_
  refine v_callV (k := 0) C dL_law_401 mvL_132 (cq_X7_callCount w l _ _ v g1) rfl ⟨by decide, by decide⟩ hcs ⟨rfl, Nat.le_of_ble_eq_true rfl⟩ (fun r1 h9 q => ?_)
  rw [q.1, q.2]
  refine v_aload_n C dL_law_404 rfl ?_
  refine v_callV (k := 0) C dL_law_405 mvL_135 (cq_X8_callCount w l _ _ v h2 g2) rfl ⟨by decide, by decide⟩ hcs ⟨rfl, Nat.le_of_ble_eq_true rfl⟩ (fun r2 h9 q => ?_)
  rw [q.1, q.2]
  exact v_icmp_eq C dL_law_408 (tgt := 2686) (by decide) (fun _ => kk) (fun z => absurd rfl z)
theorem lc_5 (C : zC w p s m args c 7 cL_law RL) (S : zScr w s xs b L) (hi : i + 6 ≤ L) (hcs : cells + 1 ≤ 601024 ∧ slots + 6 ≤ 7293033) (hop : zO_5 h X M  h2)
    (kk : zV w p l e room_1 s m args below meth c 7 (cells + 1) (slots + 6) Q 2686 (zloc b X M O i) [] h2) : zV w p l e room_1 s m args below meth c 7 cells slots Q 413 (zloc b X M O i) [] h := by
  obtain ⟨v, g1, g2⟩ := hop
  refine v_more (Nat.le_succ _) (Nat.le_add_right _ 6) ?_
  refine v_aload_n C dL_law_413 rfl ?_
  refine v_callV (k := 0) C dL_law_414 mvL_136 (cq_X7_carrierCount w l _ _ v g1) rfl ⟨by decide, by decide⟩ hcs ⟨rfl, Nat.le_of_ble_eq_true rfl⟩ (fun r1 h9 q => ?_)
  rw [q.1, q.2]
  refine v_aload_n C dL_law_417 rfl ?_
  refine v_callV (k := 0) C dL_law_418 mvL_139 (cq_X8_carrierCount w l _ _ v h2 g2) rfl ⟨by decide, by decide⟩ hcs ⟨rfl, Nat.le_of_ble_eq_true rfl⟩ (fun r2 h9 q => ?_)
  rw [q.1, q.2]
  exact v_icmp_eq C dL_law_421 (tgt := 2686) (by decide) (fun _ => kk) (fun z => absurd rfl z)
theorem lc_6 (C : zC w p s m args c 7 cL_law RL) (S : zScr w s xs b L) (hi : i + 6 ≤ L) (hcs : cells + 1 ≤ 601024 ∧ slots + 6 ≤ 7293033) (hop : zO_6 h X M  h2)
    (kk : zV w p l e room_1 s m args below meth c 7 (cells + 1) (slots + 6) Q 2686 (zloc b X M O i) [] h2) : zV w p l e room_1 s m args below meth c 7 cells slots Q 426 (zloc b X M O i) [] h := by
  obtain ⟨v, g1, g2⟩ := hop
  refine v_more (Nat.le_succ _) (Nat.le_add_right _ 6) ?_
  refine v_aload_n C dL_law_426 rfl ?_
  refine v_callV (k := 0) C dL_law_427 mvL_140 (cq_X7_undoCount w l _ _ v g1) rfl ⟨by decide, by decide⟩ hcs ⟨rfl, Nat.le_of_ble_eq_true rfl⟩ (fun r1 h9 q => ?_)
  rw [q.1, q.2]
  refine v_aload_n C dL_law_430 rfl ?_
  refine v_callV (k := 0) C dL_law_431 mvL_143 (cq_X8_undoCount w l _ _ v h2 g2) rfl ⟨by decide, by decide⟩ hcs ⟨rfl, Nat.le_of_ble_eq_true rfl⟩ (fun r2 h9 q => ?_)
  rw [q.1, q.2]
  exact v_icmp_eq C dL_law_434 (tgt := 2686) (by decide) (fun _ => kk) (fun z => absurd rfl z)
theorem lc_7 (C : zC w p s m args c 7 cL_law RL) (S : zScr w s xs b L) (hi : i + 6 ≤ L) (hcs : cells + 1 ≤ 601024 ∧ slots + 6 ≤ 7293033) (hop : zO_7 h X M (sx xs (i + 1)) h2)
    (kk : zV w p l e room_1 s m args below meth c 7 (cells + 1) (slots + 6) Q 2686 (zloc b X M O i) [] h2) : zV w p l e room_1 s m args below meth c 7 cells slots Q 439 (zloc b X M O i) [] h := by
  obtain ⟨v, g1, g2⟩ := hop
  refine v_more (Nat.le_succ _) (Nat.le_add_right _ 6) ?_
  refine v_aload_n C dL_law_439 rfl ?_
  refine v_sarg (k := 1) C S hi (by decide) rfl dL_law_440 dL_law_441 dL_law_443 dL_law_444 dL_law_445 rfl rfl ?_
  refine v_callV (k := 1) C dL_law_446 mvL_144 (cq_X7_stationNamed w l _ _ _ v g1) rfl ⟨by decide, by decide⟩ hcs ⟨rfl, Nat.le_of_ble_eq_true rfl⟩ (fun r1 h9 q => ?_)
  rw [q.1, q.2]
  refine v_aload_n C dL_law_449 rfl ?_
  refine v_sarg (k := 1) C S hi (by decide) rfl dL_law_450 dL_law_451 dL_law_453 dL_law_454 dL_law_455 rfl rfl ?_
  refine v_callV (k := 1) C dL_law_456 mvL_147 (cq_X8_stationNamed w l _ _ _ v h2 g2) rfl ⟨by decide, by decide⟩ hcs ⟨rfl, Nat.le_of_ble_eq_true rfl⟩ (fun r2 h9 q => ?_)
  rw [q.1, q.2]
  exact v_icmp_eq C dL_law_459 (tgt := 2686) (by decide) (fun _ => kk) (fun z => absurd rfl z)
theorem lc_8 (C : zC w p s m args c 7 cL_law RL) (S : zScr w s xs b L) (hi : i + 6 ≤ L) (hcs : cells + 1 ≤ 601024 ∧ slots + 6 ≤ 7293033) (hop : zO_8 h X M  h2)
    (kk : zV w p l e room_1 s m args below meth c 7 (cells + 1) (slots + 6) Q 2686 (zloc b X M O i) [] h2) : zV w p l e room_1 s m args below meth c 7 cells slots Q 464 (zloc b X M O i) [] h := by
  obtain ⟨v, g1, g2⟩ := hop
  refine v_more (Nat.le_succ _) (Nat.le_add_right _ 6) ?_
  refine v_aload_n C dL_law_464 rfl ?_
  refine v_callV (k := 0) C dL_law_465 mvL_148 (cq_X7_now w l _ _ v g1) rfl ⟨by decide, by decide⟩ hcs ⟨rfl, Nat.le_of_ble_eq_true rfl⟩ (fun r1 h9 q => ?_)
  rw [q.1, q.2]
  refine v_aload_n C dL_law_468 rfl ?_
  refine v_callV (k := 0) C dL_law_469 mvL_151 (cq_X8_now w l _ _ v h2 g2) rfl ⟨by decide, by decide⟩ hcs ⟨rfl, Nat.le_of_ble_eq_true rfl⟩ (fun r2 h9 q => ?_)
  rw [q.1, q.2]
  exact v_icmp_eq C dL_law_472 (tgt := 2686) (by decide) (fun _ => kk) (fun z => absurd rfl z)
theorem lc_9 (C : zC w p s m args c 7 cL_law RL) (S : zScr w s xs b L) (hi : i + 6 ≤ L) (hcs : cells + 1 ≤ 601024 ∧ slots + 6 ≤ 7293033) (hop : zO_9 h X M (sx xs (i + 1)) h2)
    (kk : zV w p l e room_1 s m args below meth c 7 (cells + 1) (slots + 6) Q 2686 (zloc b X M O i) [] h2) : zV w p l e room_1 s m args below meth c 7 cells slots Q 477 (zloc b X M O i) [] h := by
  obtain ⟨v, g1, g2⟩ := hop
  refine v_more (Nat.le_succ _) (Nat.le_add_right _ 6) ?_
  refine v_aload_n C dL_law_477 rfl ?_
  refine v_sarg (k := 1) C S hi (by decide) rfl dL_law_478 dL_law_479 dL_law_481 dL_law_482 dL_law_483 rfl rfl ?_
  refine v_callV (k := 1) C dL_law_484 mvL_152 (cq_X7_getSetting w l _ _ _ v g1) rfl ⟨by decide, by decide⟩ hcs ⟨rfl, Nat.le_of_ble_eq_true rfl⟩ (fun r1 h9 q => ?_)
  rw [q.1, q.2]
  refine v_aload_n C dL_law_487 rfl ?_
  refine v_sarg (k := 1) C S hi (by decide) rfl dL_law_488 dL_law_489 dL_law_491 dL_law_492 dL_law_493 rfl rfl ?_
  refine v_callV (k := 1) C dL_law_494 mvL_155 (cq_X8_getSetting w l _ _ _ v h2 g2) rfl ⟨by decide, by decide⟩ hcs ⟨rfl, Nat.le_of_ble_eq_true rfl⟩ (fun r2 h9 q => ?_)
  rw [q.1, q.2]
  exact v_icmp_eq C dL_law_497 (tgt := 2686) (by decide) (fun _ => kk) (fun z => absurd rfl z)
theorem lc_10 (C : zC w p s m args c 7 cL_law RL) (hl0 : l.stackTraces = false) (S : zScr w s xs b L) (hi : i + 6 ≤ L) (hcs : cells + 1 ≤ 601024 ∧ slots + 6 ≤ 7293033) (hop : zO_10 h X M O (sx xs (i + 1)) (sx xs (i + 2)) h2)
    (kk : zV w p l e room_1 s m args below meth c 7 (cells + 1) (slots + 6) Q 2686 (zloc b X M O i) [] h2) : zV w p l e room_1 s m args below meth c 7 cells slots Q 502 (zloc b X M O i) [] h := by
  refine v_aload_n C dL_law_502 rfl ?_
  refine v_sarg (k := 1) C S hi (by decide) rfl dL_law_503 dL_law_504 dL_law_506 dL_law_507 dL_law_508 rfl rfl ?_
  refine v_sarg (k := 2) C S hi (by decide) rfl dL_law_509 dL_law_510 dL_law_512 dL_law_513 dL_law_514 rfl rfl ?_
  refine v_aload_n C dL_law_515 rfl ?_
  rcases hop with ⟨v, g1, g2, g3, g4⟩ | ⟨gx, v, g2, g3⟩
  · refine v_wcall (k := 4) C dL_law_516 mwL_156 (w_fade w l _ _ _ _ _ v g1) rfl ⟨by decide, by decide⟩ hcs ⟨rfl, Nat.le_of_ble_eq_true rfl⟩ (fun r1 h9 q => ?_)
    rw [q.1, q.2]
    refine v_istore C dL_law_519 (by decide) ?_
    refine v_aload_n C dL_law_521 rfl ?_
    refine v_sarg (k := 1) C S hi (by decide) rfl dL_law_522 dL_law_523 dL_law_525 dL_law_526 dL_law_527 rfl rfl ?_
    refine v_sarg (k := 2) C S hi (by decide) rfl dL_law_528 dL_law_529 dL_law_531 dL_law_532 dL_law_533 rfl rfl ?_
    refine v_callV (k := 2) C dL_law_534 mvL_161 (cq_X8_fade w l _ _ _ _ v h2 g2) rfl ⟨by decide, by decide⟩ hcs ⟨rfl, Nat.le_of_ble_eq_true rfl⟩ (fun r2 h9 q => ?_)
    rw [q.1, q.2]
    refine v_istore C dL_law_537 (by decide) ?_
    refine v_aload_n C dL_law_539 rfl ?_
    refine v_callV (k := 0) C dL_law_540 mvL_162 (cq_X8_thrown w l _ _ 0 g3) rfl ⟨by decide, by decide⟩ hcs ⟨rfl, Nat.le_of_ble_eq_true rfl⟩ (fun r3 h9 q => ?_)
    rw [q.1, q.2]
    refine v_iload C dL_law_543 rfl ?_
    refine v_icmp_eq C dL_law_545 (tgt := 550) (by decide) (fun _ => ?_) (fun z => absurd rfl z)
    refine v_iload C dL_law_550 rfl ?_
    refine v_if_ne C dL_law_552 (tgt := 567) (by decide) (fun z => absurd rfl z) (fun _ => ?_)
    refine v_aload_n C dL_law_555 rfl ?_
    refine v_iconst C dL_law_556 rfl ?_
    exact v_cmpO C (tgt := 567) g4 dL_law_557 dL_law_558 dL_law_560 dL_law_561 dL_law_562 (by decide) rfl (v_goto C dL_law_567 (tgt := 2686) (by decide) (v_loc (fun k9 v9 h9 => zloc_ok56 h9) kk))
  · refine v_wcall (k := 4) C dL_law_516 mwL_156 (wx_fade w l _ _ _ _ _ (x_X7_fade w l hl0 _ _ _ _ gx)) rfl ⟨by decide, by decide⟩ hcs ⟨rfl, Nat.le_of_ble_eq_true rfl⟩ (fun r1 h9 q => ?_)
    rw [q.1, q.2]
    refine v_istore C dL_law_519 (by decide) ?_
    refine v_aload_n C dL_law_521 rfl ?_
    refine v_sarg (k := 1) C S hi (by decide) rfl dL_law_522 dL_law_523 dL_law_525 dL_law_526 dL_law_527 rfl rfl ?_
    refine v_sarg (k := 2) C S hi (by decide) rfl dL_law_528 dL_law_529 dL_law_531 dL_law_532 dL_law_533 rfl rfl ?_
    refine v_callV (k := 2) C dL_law_534 mvL_161 (cq_X8_fade w l _ _ _ _ v h2 g2) rfl ⟨by decide, by decide⟩ hcs ⟨rfl, Nat.le_of_ble_eq_true rfl⟩ (fun r2 h9 q => ?_)
    rw [q.1, q.2]
    refine v_istore C dL_law_537 (by decide) ?_
    refine v_aload_n C dL_law_539 rfl ?_
    refine v_callV (k := 0) C dL_law_540 mvL_162 (cq_X8_thrown w l _ _ 1 g3) rfl ⟨by decide, by decide⟩ hcs ⟨rfl, Nat.le_of_ble_eq_true rfl⟩ (fun r3 h9 q => ?_)
    rw [q.1, q.2]
    refine v_iload C dL_law_543 rfl ?_
    refine v_icmp_eq C dL_law_545 (tgt := 550) (by decide) (fun _ => ?_) (fun z => absurd rfl z)
    refine v_iload C dL_law_550 rfl ?_
    exact v_if_ne C dL_law_552 (tgt := 567) (by decide) (fun _ => v_goto C dL_law_567 (tgt := 2686) (by decide) (v_loc (fun k9 v9 h9 => zloc_ok56 h9) kk)) (fun z => absurd z (by decide))
theorem lc_11 (C : zC w p s m args c 7 cL_law RL) (hl0 : l.stackTraces = false) (S : zScr w s xs b L) (hi : i + 6 ≤ L) (hcs : cells + 1 ≤ 601024 ∧ slots + 6 ≤ 7293033) (hop : zO_11 h X M O (sx xs (i + 1)) h2)
    (kk : zV w p l e room_1 s m args below meth c 7 (cells + 1) (slots + 6) Q 2686 (zloc b X M O i) [] h2) : zV w p l e room_1 s m args below meth c 7 cells slots Q 570 (zloc b X M O i) [] h := by
  refine v_aload_n C dL_law_570 rfl ?_
  refine v_sarg (k := 1) C S hi (by decide) rfl dL_law_571 dL_law_572 dL_law_574 dL_law_575 dL_law_576 rfl rfl ?_
  refine v_aload_n C dL_law_577 rfl ?_
  rcases hop with ⟨v, g1, g2, g3, g4⟩ | ⟨gx, v, g2, g3⟩
  · refine v_wcall (k := 3) C dL_law_578 mwL_165 (w_power w l _ _ _ _ v g1) rfl ⟨by decide, by decide⟩ hcs ⟨rfl, Nat.le_of_ble_eq_true rfl⟩ (fun r1 h9 q => ?_)
    rw [q.1, q.2]
    refine v_istore C dL_law_581 (by decide) ?_
    refine v_aload_n C dL_law_583 rfl ?_
    refine v_sarg (k := 1) C S hi (by decide) rfl dL_law_584 dL_law_585 dL_law_587 dL_law_588 dL_law_589 rfl rfl ?_
    refine v_callV (k := 1) C dL_law_590 mvL_168 (cq_X8_power w l _ _ _ v h2 g2) rfl ⟨by decide, by decide⟩ hcs ⟨rfl, Nat.le_of_ble_eq_true rfl⟩ (fun r2 h9 q => ?_)
    rw [q.1, q.2]
    refine v_istore C dL_law_593 (by decide) ?_
    refine v_aload_n C dL_law_595 rfl ?_
    refine v_callV (k := 0) C dL_law_596 mvL_162 (cq_X8_thrown w l _ _ 0 g3) rfl ⟨by decide, by decide⟩ hcs ⟨rfl, Nat.le_of_ble_eq_true rfl⟩ (fun r3 h9 q => ?_)
    rw [q.1, q.2]
    refine v_iload C dL_law_599 rfl ?_
    refine v_icmp_eq C dL_law_601 (tgt := 606) (by decide) (fun _ => ?_) (fun z => absurd rfl z)
    refine v_iload C dL_law_606 rfl ?_
    refine v_if_ne C dL_law_608 (tgt := 623) (by decide) (fun z => absurd rfl z) (fun _ => ?_)
    refine v_aload_n C dL_law_611 rfl ?_
    refine v_iconst C dL_law_612 rfl ?_
    exact v_cmpO C (tgt := 623) g4 dL_law_613 dL_law_614 dL_law_616 dL_law_617 dL_law_618 (by decide) rfl (v_goto C dL_law_623 (tgt := 2686) (by decide) (v_loc (fun k9 v9 h9 => zloc_ok56 h9) kk))
  · refine v_wcall (k := 3) C dL_law_578 mwL_165 (wx_power w l _ _ _ _ (x_X7_power w l hl0 _ _ _ gx)) rfl ⟨by decide, by decide⟩ hcs ⟨rfl, Nat.le_of_ble_eq_true rfl⟩ (fun r1 h9 q => ?_)
    rw [q.1, q.2]
    refine v_istore C dL_law_581 (by decide) ?_
    refine v_aload_n C dL_law_583 rfl ?_
    refine v_sarg (k := 1) C S hi (by decide) rfl dL_law_584 dL_law_585 dL_law_587 dL_law_588 dL_law_589 rfl rfl ?_
    refine v_callV (k := 1) C dL_law_590 mvL_168 (cq_X8_power w l _ _ _ v h2 g2) rfl ⟨by decide, by decide⟩ hcs ⟨rfl, Nat.le_of_ble_eq_true rfl⟩ (fun r2 h9 q => ?_)
    rw [q.1, q.2]
    refine v_istore C dL_law_593 (by decide) ?_
    refine v_aload_n C dL_law_595 rfl ?_
    refine v_callV (k := 0) C dL_law_596 mvL_162 (cq_X8_thrown w l _ _ 1 g3) rfl ⟨by decide, by decide⟩ hcs ⟨rfl, Nat.le_of_ble_eq_true rfl⟩ (fun r3 h9 q => ?_)
    rw [q.1, q.2]
    refine v_iload C dL_law_599 rfl ?_
    refine v_icmp_eq C dL_law_601 (tgt := 606) (by decide) (fun _ => ?_) (fun z => absurd rfl z)
    refine v_iload C dL_law_606 rfl ?_
    exact v_if_ne C dL_law_608 (tgt := 623) (by decide) (fun _ => v_goto C dL_law_623 (tgt := 2686) (by decide) (v_loc (fun k9 v9 h9 => zloc_ok56 h9) kk)) (fun z => absurd z (by decide))
theorem lc_12 (C : zC w p s m args c 7 cL_law RL) (hl0 : l.stackTraces = false) (S : zScr w s xs b L) (hi : i + 6 ≤ L) (hcs : cells + 1 ≤ 601024 ∧ slots + 6 ≤ 7293033) (hop : zO_12 h X M O (sx xs (i + 1)) h2)
    (kk : zV w p l e room_1 s m args below meth c 7 (cells + 1) (slots + 6) Q 2686 (zloc b X M O i) [] h2) : zV w p l e room_1 s m args below meth c 7 cells slots Q 626 (zloc b X M O i) [] h := by
  refine v_aload_n C dL_law_626 rfl ?_
  refine v_sarg (k := 1) C S hi (by decide) rfl dL_law_627 dL_law_628 dL_law_630 dL_law_631 dL_law_632 rfl rfl ?_
  refine v_aload_n C dL_law_633 rfl ?_
  rcases hop with ⟨v, g1, g2, g3, g4⟩ | ⟨gx, v, g2, g3⟩
  · refine v_wcall (k := 3) C dL_law_634 mwL_169 (w_timingError w l _ _ _ _ v g1) rfl ⟨by decide, by decide⟩ hcs ⟨rfl, Nat.le_of_ble_eq_true rfl⟩ (fun r1 h9 q => ?_)
    rw [q.1, q.2]
    refine v_istore C dL_law_637 (by decide) ?_
    refine v_aload_n C dL_law_639 rfl ?_
    refine v_sarg (k := 1) C S hi (by decide) rfl dL_law_640 dL_law_641 dL_law_643 dL_law_644 dL_law_645 rfl rfl ?_
    refine v_callV (k := 1) C dL_law_646 mvL_171 (cq_X8_timingError w l _ _ _ v h2 g2) rfl ⟨by decide, by decide⟩ hcs ⟨rfl, Nat.le_of_ble_eq_true rfl⟩ (fun r2 h9 q => ?_)
    rw [q.1, q.2]
    refine v_istore C dL_law_649 (by decide) ?_
    refine v_aload_n C dL_law_651 rfl ?_
    refine v_callV (k := 0) C dL_law_652 mvL_162 (cq_X8_thrown w l _ _ 0 g3) rfl ⟨by decide, by decide⟩ hcs ⟨rfl, Nat.le_of_ble_eq_true rfl⟩ (fun r3 h9 q => ?_)
    rw [q.1, q.2]
    refine v_iload C dL_law_655 rfl ?_
    refine v_icmp_eq C dL_law_657 (tgt := 662) (by decide) (fun _ => ?_) (fun z => absurd rfl z)
    refine v_iload C dL_law_662 rfl ?_
    refine v_if_ne C dL_law_664 (tgt := 679) (by decide) (fun z => absurd rfl z) (fun _ => ?_)
    refine v_aload_n C dL_law_667 rfl ?_
    refine v_iconst C dL_law_668 rfl ?_
    exact v_cmpO C (tgt := 679) g4 dL_law_669 dL_law_670 dL_law_672 dL_law_673 dL_law_674 (by decide) rfl (v_goto C dL_law_679 (tgt := 2686) (by decide) (v_loc (fun k9 v9 h9 => zloc_ok56 h9) kk))
  · refine v_wcall (k := 3) C dL_law_634 mwL_169 (wx_timingError w l _ _ _ _ (x_X7_timingError w l hl0 _ _ _ gx)) rfl ⟨by decide, by decide⟩ hcs ⟨rfl, Nat.le_of_ble_eq_true rfl⟩ (fun r1 h9 q => ?_)
    rw [q.1, q.2]
    refine v_istore C dL_law_637 (by decide) ?_
    refine v_aload_n C dL_law_639 rfl ?_
    refine v_sarg (k := 1) C S hi (by decide) rfl dL_law_640 dL_law_641 dL_law_643 dL_law_644 dL_law_645 rfl rfl ?_
    refine v_callV (k := 1) C dL_law_646 mvL_171 (cq_X8_timingError w l _ _ _ v h2 g2) rfl ⟨by decide, by decide⟩ hcs ⟨rfl, Nat.le_of_ble_eq_true rfl⟩ (fun r2 h9 q => ?_)
    rw [q.1, q.2]
    refine v_istore C dL_law_649 (by decide) ?_
    refine v_aload_n C dL_law_651 rfl ?_
    refine v_callV (k := 0) C dL_law_652 mvL_162 (cq_X8_thrown w l _ _ 1 g3) rfl ⟨by decide, by decide⟩ hcs ⟨rfl, Nat.le_of_ble_eq_true rfl⟩ (fun r3 h9 q => ?_)
    rw [q.1, q.2]
    refine v_iload C dL_law_655 rfl ?_
    refine v_icmp_eq C dL_law_657 (tgt := 662) (by decide) (fun _ => ?_) (fun z => absurd rfl z)
    refine v_iload C dL_law_662 rfl ?_
    exact v_if_ne C dL_law_664 (tgt := 679) (by decide) (fun _ => v_goto C dL_law_679 (tgt := 2686) (by decide) (v_loc (fun k9 v9 h9 => zloc_ok56 h9) kk)) (fun z => absurd z (by decide))
theorem lc_13 (C : zC w p s m args c 7 cL_law RL) (hl0 : l.stackTraces = false) (S : zScr w s xs b L) (hi : i + 6 ≤ L) (hcs : cells + 1 ≤ 601024 ∧ slots + 6 ≤ 7293033) (hop : zO_13 h X M O (sx xs (i + 1)) h2)
    (kk : zV w p l e room_1 s m args below meth c 7 (cells + 1) (slots + 6) Q 2686 (zloc b X M O i) [] h2) : zV w p l e room_1 s m args below meth c 7 cells slots Q 682 (zloc b X M O i) [] h := by
  refine v_aload_n C dL_law_682 rfl ?_
  refine v_sarg (k := 1) C S hi (by decide) rfl dL_law_683 dL_law_684 dL_law_686 dL_law_687 dL_law_688 rfl rfl ?_
  refine v_aload_n C dL_law_689 rfl ?_
  rcases hop with ⟨v, g1, g2, g3, g4⟩ | ⟨gx, v, g2, g3⟩
  · refine v_wcall (k := 3) C dL_law_690 mwL_172 (w_roundTrip w l _ _ _ _ v g1) rfl ⟨by decide, by decide⟩ hcs ⟨rfl, Nat.le_of_ble_eq_true rfl⟩ (fun r1 h9 q => ?_)
    rw [q.1, q.2]
    refine v_istore C dL_law_693 (by decide) ?_
    refine v_aload_n C dL_law_695 rfl ?_
    refine v_sarg (k := 1) C S hi (by decide) rfl dL_law_696 dL_law_697 dL_law_699 dL_law_700 dL_law_701 rfl rfl ?_
    refine v_callV (k := 1) C dL_law_702 mvL_174 (cq_X8_roundTrip w l _ _ _ v h2 g2) rfl ⟨by decide, by decide⟩ hcs ⟨rfl, Nat.le_of_ble_eq_true rfl⟩ (fun r2 h9 q => ?_)
    rw [q.1, q.2]
    refine v_istore C dL_law_705 (by decide) ?_
    refine v_aload_n C dL_law_707 rfl ?_
    refine v_callV (k := 0) C dL_law_708 mvL_162 (cq_X8_thrown w l _ _ 0 g3) rfl ⟨by decide, by decide⟩ hcs ⟨rfl, Nat.le_of_ble_eq_true rfl⟩ (fun r3 h9 q => ?_)
    rw [q.1, q.2]
    refine v_iload C dL_law_711 rfl ?_
    refine v_icmp_eq C dL_law_713 (tgt := 718) (by decide) (fun _ => ?_) (fun z => absurd rfl z)
    refine v_iload C dL_law_718 rfl ?_
    refine v_if_ne C dL_law_720 (tgt := 735) (by decide) (fun z => absurd rfl z) (fun _ => ?_)
    refine v_aload_n C dL_law_723 rfl ?_
    refine v_iconst C dL_law_724 rfl ?_
    exact v_cmpO C (tgt := 735) g4 dL_law_725 dL_law_726 dL_law_728 dL_law_729 dL_law_730 (by decide) rfl (v_goto C dL_law_735 (tgt := 2686) (by decide) (v_loc (fun k9 v9 h9 => zloc_ok56 h9) kk))
  · refine v_wcall (k := 3) C dL_law_690 mwL_172 (wx_roundTrip w l _ _ _ _ (x_X7_roundTrip w l hl0 _ _ _ gx)) rfl ⟨by decide, by decide⟩ hcs ⟨rfl, Nat.le_of_ble_eq_true rfl⟩ (fun r1 h9 q => ?_)
    rw [q.1, q.2]
    refine v_istore C dL_law_693 (by decide) ?_
    refine v_aload_n C dL_law_695 rfl ?_
    refine v_sarg (k := 1) C S hi (by decide) rfl dL_law_696 dL_law_697 dL_law_699 dL_law_700 dL_law_701 rfl rfl ?_
    refine v_callV (k := 1) C dL_law_702 mvL_174 (cq_X8_roundTrip w l _ _ _ v h2 g2) rfl ⟨by decide, by decide⟩ hcs ⟨rfl, Nat.le_of_ble_eq_true rfl⟩ (fun r2 h9 q => ?_)
    rw [q.1, q.2]
    refine v_istore C dL_law_705 (by decide) ?_
    refine v_aload_n C dL_law_707 rfl ?_
    refine v_callV (k := 0) C dL_law_708 mvL_162 (cq_X8_thrown w l _ _ 1 g3) rfl ⟨by decide, by decide⟩ hcs ⟨rfl, Nat.le_of_ble_eq_true rfl⟩ (fun r3 h9 q => ?_)
    rw [q.1, q.2]
    refine v_iload C dL_law_711 rfl ?_
    refine v_icmp_eq C dL_law_713 (tgt := 718) (by decide) (fun _ => ?_) (fun z => absurd rfl z)
    refine v_iload C dL_law_718 rfl ?_
    exact v_if_ne C dL_law_720 (tgt := 735) (by decide) (fun _ => v_goto C dL_law_735 (tgt := 2686) (by decide) (v_loc (fun k9 v9 h9 => zloc_ok56 h9) kk)) (fun z => absurd z (by decide))
theorem lc_14 (C : zC w p s m args c 7 cL_law RL) (hl0 : l.stackTraces = false) (S : zScr w s xs b L) (hi : i + 6 ≤ L) (hcs : cells + 1 ≤ 601024 ∧ slots + 6 ≤ 7293033) (hop : zO_14 h X M O (sx xs (i + 1)) h2)
    (kk : zV w p l e room_1 s m args below meth c 7 (cells + 1) (slots + 6) Q 2686 (zloc b X M O i) [] h2) : zV w p l e room_1 s m args below meth c 7 cells slots Q 738 (zloc b X M O i) [] h := by
  refine v_aload_n C dL_law_738 rfl ?_
  refine v_sarg (k := 1) C S hi (by decide) rfl dL_law_739 dL_law_740 dL_law_742 dL_law_743 dL_law_744 rfl rfl ?_
  refine v_aload_n C dL_law_745 rfl ?_
  rcases hop with ⟨v, g1, g2, g3, g4⟩ | ⟨gx, v, g2, g3⟩
  · refine v_wcall (k := 3) C dL_law_746 mwL_175 (w_timingFaults w l _ _ _ _ v g1) rfl ⟨by decide, by decide⟩ hcs ⟨rfl, Nat.le_of_ble_eq_true rfl⟩ (fun r1 h9 q => ?_)
    rw [q.1, q.2]
    refine v_istore C dL_law_749 (by decide) ?_
    refine v_aload_n C dL_law_751 rfl ?_
    refine v_sarg (k := 1) C S hi (by decide) rfl dL_law_752 dL_law_753 dL_law_755 dL_law_756 dL_law_757 rfl rfl ?_
    refine v_callV (k := 1) C dL_law_758 mvL_177 (cq_X8_timingFaults w l _ _ _ v h2 g2) rfl ⟨by decide, by decide⟩ hcs ⟨rfl, Nat.le_of_ble_eq_true rfl⟩ (fun r2 h9 q => ?_)
    rw [q.1, q.2]
    refine v_istore C dL_law_761 (by decide) ?_
    refine v_aload_n C dL_law_763 rfl ?_
    refine v_callV (k := 0) C dL_law_764 mvL_162 (cq_X8_thrown w l _ _ 0 g3) rfl ⟨by decide, by decide⟩ hcs ⟨rfl, Nat.le_of_ble_eq_true rfl⟩ (fun r3 h9 q => ?_)
    rw [q.1, q.2]
    refine v_iload C dL_law_767 rfl ?_
    refine v_icmp_eq C dL_law_769 (tgt := 774) (by decide) (fun _ => ?_) (fun z => absurd rfl z)
    refine v_iload C dL_law_774 rfl ?_
    refine v_if_ne C dL_law_776 (tgt := 791) (by decide) (fun z => absurd rfl z) (fun _ => ?_)
    refine v_aload_n C dL_law_779 rfl ?_
    refine v_iconst C dL_law_780 rfl ?_
    exact v_cmpO C (tgt := 791) g4 dL_law_781 dL_law_782 dL_law_784 dL_law_785 dL_law_786 (by decide) rfl (v_goto C dL_law_791 (tgt := 2686) (by decide) (v_loc (fun k9 v9 h9 => zloc_ok56 h9) kk))
  · refine v_wcall (k := 3) C dL_law_746 mwL_175 (wx_timingFaults w l _ _ _ _ (x_X7_timingFaults w l hl0 _ _ _ gx)) rfl ⟨by decide, by decide⟩ hcs ⟨rfl, Nat.le_of_ble_eq_true rfl⟩ (fun r1 h9 q => ?_)
    rw [q.1, q.2]
    refine v_istore C dL_law_749 (by decide) ?_
    refine v_aload_n C dL_law_751 rfl ?_
    refine v_sarg (k := 1) C S hi (by decide) rfl dL_law_752 dL_law_753 dL_law_755 dL_law_756 dL_law_757 rfl rfl ?_
    refine v_callV (k := 1) C dL_law_758 mvL_177 (cq_X8_timingFaults w l _ _ _ v h2 g2) rfl ⟨by decide, by decide⟩ hcs ⟨rfl, Nat.le_of_ble_eq_true rfl⟩ (fun r2 h9 q => ?_)
    rw [q.1, q.2]
    refine v_istore C dL_law_761 (by decide) ?_
    refine v_aload_n C dL_law_763 rfl ?_
    refine v_callV (k := 0) C dL_law_764 mvL_162 (cq_X8_thrown w l _ _ 1 g3) rfl ⟨by decide, by decide⟩ hcs ⟨rfl, Nat.le_of_ble_eq_true rfl⟩ (fun r3 h9 q => ?_)
    rw [q.1, q.2]
    refine v_iload C dL_law_767 rfl ?_
    refine v_icmp_eq C dL_law_769 (tgt := 774) (by decide) (fun _ => ?_) (fun z => absurd rfl z)
    refine v_iload C dL_law_774 rfl ?_
    exact v_if_ne C dL_law_776 (tgt := 791) (by decide) (fun _ => v_goto C dL_law_791 (tgt := 2686) (by decide) (v_loc (fun k9 v9 h9 => zloc_ok56 h9) kk)) (fun z => absurd z (by decide))
theorem lc_15 (C : zC w p s m args c 7 cL_law RL) (hl0 : l.stackTraces = false) (S : zScr w s xs b L) (hi : i + 6 ≤ L) (hcs : cells + 1 ≤ 601024 ∧ slots + 6 ≤ 7293033) (hop : zO_15 h X M O (sx xs (i + 1)) h2)
    (kk : zV w p l e room_1 s m args below meth c 7 (cells + 1) (slots + 6) Q 2686 (zloc b X M O i) [] h2) : zV w p l e room_1 s m args below meth c 7 cells slots Q 794 (zloc b X M O i) [] h := by
  refine v_aload_n C dL_law_794 rfl ?_
  refine v_sarg (k := 1) C S hi (by decide) rfl dL_law_795 dL_law_796 dL_law_798 dL_law_799 dL_law_800 rfl rfl ?_
  refine v_aload_n C dL_law_801 rfl ?_
  rcases hop with ⟨v, g1, g2, g3, g4⟩ | ⟨gx, v, g2, g3⟩
  · refine v_wcall (k := 3) C dL_law_802 mwL_178 (w_stateOf w l _ _ _ _ v g1) rfl ⟨by decide, by decide⟩ hcs ⟨rfl, Nat.le_of_ble_eq_true rfl⟩ (fun r1 h9 q => ?_)
    rw [q.1, q.2]
    refine v_istore C dL_law_805 (by decide) ?_
    refine v_aload_n C dL_law_807 rfl ?_
    refine v_sarg (k := 1) C S hi (by decide) rfl dL_law_808 dL_law_809 dL_law_811 dL_law_812 dL_law_813 rfl rfl ?_
    refine v_callV (k := 1) C dL_law_814 mvL_180 (cq_X8_stateOf w l _ _ _ v h2 g2) rfl ⟨by decide, by decide⟩ hcs ⟨rfl, Nat.le_of_ble_eq_true rfl⟩ (fun r2 h9 q => ?_)
    rw [q.1, q.2]
    refine v_istore C dL_law_817 (by decide) ?_
    refine v_aload_n C dL_law_819 rfl ?_
    refine v_callV (k := 0) C dL_law_820 mvL_162 (cq_X8_thrown w l _ _ 0 g3) rfl ⟨by decide, by decide⟩ hcs ⟨rfl, Nat.le_of_ble_eq_true rfl⟩ (fun r3 h9 q => ?_)
    rw [q.1, q.2]
    refine v_iload C dL_law_823 rfl ?_
    refine v_icmp_eq C dL_law_825 (tgt := 830) (by decide) (fun _ => ?_) (fun z => absurd rfl z)
    refine v_iload C dL_law_830 rfl ?_
    refine v_if_ne C dL_law_832 (tgt := 847) (by decide) (fun z => absurd rfl z) (fun _ => ?_)
    refine v_aload_n C dL_law_835 rfl ?_
    refine v_iconst C dL_law_836 rfl ?_
    exact v_cmpO C (tgt := 847) g4 dL_law_837 dL_law_838 dL_law_840 dL_law_841 dL_law_842 (by decide) rfl (v_goto C dL_law_847 (tgt := 2686) (by decide) (v_loc (fun k9 v9 h9 => zloc_ok56 h9) kk))
  · refine v_wcall (k := 3) C dL_law_802 mwL_178 (wx_stateOf w l _ _ _ _ (x_X7_stateOf w l hl0 _ _ _ gx)) rfl ⟨by decide, by decide⟩ hcs ⟨rfl, Nat.le_of_ble_eq_true rfl⟩ (fun r1 h9 q => ?_)
    rw [q.1, q.2]
    refine v_istore C dL_law_805 (by decide) ?_
    refine v_aload_n C dL_law_807 rfl ?_
    refine v_sarg (k := 1) C S hi (by decide) rfl dL_law_808 dL_law_809 dL_law_811 dL_law_812 dL_law_813 rfl rfl ?_
    refine v_callV (k := 1) C dL_law_814 mvL_180 (cq_X8_stateOf w l _ _ _ v h2 g2) rfl ⟨by decide, by decide⟩ hcs ⟨rfl, Nat.le_of_ble_eq_true rfl⟩ (fun r2 h9 q => ?_)
    rw [q.1, q.2]
    refine v_istore C dL_law_817 (by decide) ?_
    refine v_aload_n C dL_law_819 rfl ?_
    refine v_callV (k := 0) C dL_law_820 mvL_162 (cq_X8_thrown w l _ _ 1 g3) rfl ⟨by decide, by decide⟩ hcs ⟨rfl, Nat.le_of_ble_eq_true rfl⟩ (fun r3 h9 q => ?_)
    rw [q.1, q.2]
    refine v_iload C dL_law_823 rfl ?_
    refine v_icmp_eq C dL_law_825 (tgt := 830) (by decide) (fun _ => ?_) (fun z => absurd rfl z)
    refine v_iload C dL_law_830 rfl ?_
    exact v_if_ne C dL_law_832 (tgt := 847) (by decide) (fun _ => v_goto C dL_law_847 (tgt := 2686) (by decide) (v_loc (fun k9 v9 h9 => zloc_ok56 h9) kk)) (fun z => absurd z (by decide))
theorem lc_16 (C : zC w p s m args c 7 cL_law RL) (hl0 : l.stackTraces = false) (S : zScr w s xs b L) (hi : i + 6 ≤ L) (hcs : cells + 1 ≤ 601024 ∧ slots + 6 ≤ 7293033) (hop : zO_16 h X M O (sx xs (i + 1)) h2)
    (kk : zV w p l e room_1 s m args below meth c 7 (cells + 1) (slots + 6) Q 2686 (zloc b X M O i) [] h2) : zV w p l e room_1 s m args below meth c 7 cells slots Q 850 (zloc b X M O i) [] h := by
  refine v_aload_n C dL_law_850 rfl ?_
  refine v_sarg (k := 1) C S hi (by decide) rfl dL_law_851 dL_law_852 dL_law_854 dL_law_855 dL_law_856 rfl rfl ?_
  refine v_aload_n C dL_law_857 rfl ?_
  rcases hop with ⟨v, g1, g2, g3, g4⟩ | ⟨gx, v, g2, g3⟩
  · refine v_wcall (k := 3) C dL_law_858 mwL_181 (w_senderOf w l _ _ _ _ v g1) rfl ⟨by decide, by decide⟩ hcs ⟨rfl, Nat.le_of_ble_eq_true rfl⟩ (fun r1 h9 q => ?_)
    rw [q.1, q.2]
    refine v_istore C dL_law_861 (by decide) ?_
    refine v_aload_n C dL_law_863 rfl ?_
    refine v_sarg (k := 1) C S hi (by decide) rfl dL_law_864 dL_law_865 dL_law_867 dL_law_868 dL_law_869 rfl rfl ?_
    refine v_callV (k := 1) C dL_law_870 mvL_183 (cq_X8_senderOf w l _ _ _ v h2 g2) rfl ⟨by decide, by decide⟩ hcs ⟨rfl, Nat.le_of_ble_eq_true rfl⟩ (fun r2 h9 q => ?_)
    rw [q.1, q.2]
    refine v_istore C dL_law_873 (by decide) ?_
    refine v_aload_n C dL_law_875 rfl ?_
    refine v_callV (k := 0) C dL_law_876 mvL_162 (cq_X8_thrown w l _ _ 0 g3) rfl ⟨by decide, by decide⟩ hcs ⟨rfl, Nat.le_of_ble_eq_true rfl⟩ (fun r3 h9 q => ?_)
    rw [q.1, q.2]
    refine v_iload C dL_law_879 rfl ?_
    refine v_icmp_eq C dL_law_881 (tgt := 886) (by decide) (fun _ => ?_) (fun z => absurd rfl z)
    refine v_iload C dL_law_886 rfl ?_
    refine v_if_ne C dL_law_888 (tgt := 903) (by decide) (fun z => absurd rfl z) (fun _ => ?_)
    refine v_aload_n C dL_law_891 rfl ?_
    refine v_iconst C dL_law_892 rfl ?_
    exact v_cmpO C (tgt := 903) g4 dL_law_893 dL_law_894 dL_law_896 dL_law_897 dL_law_898 (by decide) rfl (v_goto C dL_law_903 (tgt := 2686) (by decide) (v_loc (fun k9 v9 h9 => zloc_ok56 h9) kk))
  · refine v_wcall (k := 3) C dL_law_858 mwL_181 (wx_senderOf w l _ _ _ _ (x_X7_senderOf w l hl0 _ _ _ gx)) rfl ⟨by decide, by decide⟩ hcs ⟨rfl, Nat.le_of_ble_eq_true rfl⟩ (fun r1 h9 q => ?_)
    rw [q.1, q.2]
    refine v_istore C dL_law_861 (by decide) ?_
    refine v_aload_n C dL_law_863 rfl ?_
    refine v_sarg (k := 1) C S hi (by decide) rfl dL_law_864 dL_law_865 dL_law_867 dL_law_868 dL_law_869 rfl rfl ?_
    refine v_callV (k := 1) C dL_law_870 mvL_183 (cq_X8_senderOf w l _ _ _ v h2 g2) rfl ⟨by decide, by decide⟩ hcs ⟨rfl, Nat.le_of_ble_eq_true rfl⟩ (fun r2 h9 q => ?_)
    rw [q.1, q.2]
    refine v_istore C dL_law_873 (by decide) ?_
    refine v_aload_n C dL_law_875 rfl ?_
    refine v_callV (k := 0) C dL_law_876 mvL_162 (cq_X8_thrown w l _ _ 1 g3) rfl ⟨by decide, by decide⟩ hcs ⟨rfl, Nat.le_of_ble_eq_true rfl⟩ (fun r3 h9 q => ?_)
    rw [q.1, q.2]
    refine v_iload C dL_law_879 rfl ?_
    refine v_icmp_eq C dL_law_881 (tgt := 886) (by decide) (fun _ => ?_) (fun z => absurd rfl z)
    refine v_iload C dL_law_886 rfl ?_
    exact v_if_ne C dL_law_888 (tgt := 903) (by decide) (fun _ => v_goto C dL_law_903 (tgt := 2686) (by decide) (v_loc (fun k9 v9 h9 => zloc_ok56 h9) kk)) (fun z => absurd z (by decide))
theorem lc_17 (C : zC w p s m args c 7 cL_law RL) (hl0 : l.stackTraces = false) (S : zScr w s xs b L) (hi : i + 6 ≤ L) (hcs : cells + 1 ≤ 601024 ∧ slots + 6 ≤ 7293033) (hop : zO_17 h X M O (sx xs (i + 1)) h2)
    (kk : zV w p l e room_1 s m args below meth c 7 (cells + 1) (slots + 6) Q 2686 (zloc b X M O i) [] h2) : zV w p l e room_1 s m args below meth c 7 cells slots Q 906 (zloc b X M O i) [] h := by
  refine v_aload_n C dL_law_906 rfl ?_
  refine v_sarg (k := 1) C S hi (by decide) rfl dL_law_907 dL_law_908 dL_law_910 dL_law_911 dL_law_912 rfl rfl ?_
  refine v_aload_n C dL_law_913 rfl ?_
  rcases hop with ⟨v, g1, g2, g3, g4⟩ | ⟨gx, v, g2, g3⟩
  · refine v_wcall (k := 3) C dL_law_914 mwL_184 (w_receiverOf w l _ _ _ _ v g1) rfl ⟨by decide, by decide⟩ hcs ⟨rfl, Nat.le_of_ble_eq_true rfl⟩ (fun r1 h9 q => ?_)
    rw [q.1, q.2]
    refine v_istore C dL_law_917 (by decide) ?_
    refine v_aload_n C dL_law_919 rfl ?_
    refine v_sarg (k := 1) C S hi (by decide) rfl dL_law_920 dL_law_921 dL_law_923 dL_law_924 dL_law_925 rfl rfl ?_
    refine v_callV (k := 1) C dL_law_926 mvL_186 (cq_X8_receiverOf w l _ _ _ v h2 g2) rfl ⟨by decide, by decide⟩ hcs ⟨rfl, Nat.le_of_ble_eq_true rfl⟩ (fun r2 h9 q => ?_)
    rw [q.1, q.2]
    refine v_istore C dL_law_929 (by decide) ?_
    refine v_aload_n C dL_law_931 rfl ?_
    refine v_callV (k := 0) C dL_law_932 mvL_162 (cq_X8_thrown w l _ _ 0 g3) rfl ⟨by decide, by decide⟩ hcs ⟨rfl, Nat.le_of_ble_eq_true rfl⟩ (fun r3 h9 q => ?_)
    rw [q.1, q.2]
    refine v_iload C dL_law_935 rfl ?_
    refine v_icmp_eq C dL_law_937 (tgt := 942) (by decide) (fun _ => ?_) (fun z => absurd rfl z)
    refine v_iload C dL_law_942 rfl ?_
    refine v_if_ne C dL_law_944 (tgt := 959) (by decide) (fun z => absurd rfl z) (fun _ => ?_)
    refine v_aload_n C dL_law_947 rfl ?_
    refine v_iconst C dL_law_948 rfl ?_
    exact v_cmpO C (tgt := 959) g4 dL_law_949 dL_law_950 dL_law_952 dL_law_953 dL_law_954 (by decide) rfl (v_goto C dL_law_959 (tgt := 2686) (by decide) (v_loc (fun k9 v9 h9 => zloc_ok56 h9) kk))
  · refine v_wcall (k := 3) C dL_law_914 mwL_184 (wx_receiverOf w l _ _ _ _ (x_X7_receiverOf w l hl0 _ _ _ gx)) rfl ⟨by decide, by decide⟩ hcs ⟨rfl, Nat.le_of_ble_eq_true rfl⟩ (fun r1 h9 q => ?_)
    rw [q.1, q.2]
    refine v_istore C dL_law_917 (by decide) ?_
    refine v_aload_n C dL_law_919 rfl ?_
    refine v_sarg (k := 1) C S hi (by decide) rfl dL_law_920 dL_law_921 dL_law_923 dL_law_924 dL_law_925 rfl rfl ?_
    refine v_callV (k := 1) C dL_law_926 mvL_186 (cq_X8_receiverOf w l _ _ _ v h2 g2) rfl ⟨by decide, by decide⟩ hcs ⟨rfl, Nat.le_of_ble_eq_true rfl⟩ (fun r2 h9 q => ?_)
    rw [q.1, q.2]
    refine v_istore C dL_law_929 (by decide) ?_
    refine v_aload_n C dL_law_931 rfl ?_
    refine v_callV (k := 0) C dL_law_932 mvL_162 (cq_X8_thrown w l _ _ 1 g3) rfl ⟨by decide, by decide⟩ hcs ⟨rfl, Nat.le_of_ble_eq_true rfl⟩ (fun r3 h9 q => ?_)
    rw [q.1, q.2]
    refine v_iload C dL_law_935 rfl ?_
    refine v_icmp_eq C dL_law_937 (tgt := 942) (by decide) (fun _ => ?_) (fun z => absurd rfl z)
    refine v_iload C dL_law_942 rfl ?_
    exact v_if_ne C dL_law_944 (tgt := 959) (by decide) (fun _ => v_goto C dL_law_959 (tgt := 2686) (by decide) (v_loc (fun k9 v9 h9 => zloc_ok56 h9) kk)) (fun z => absurd z (by decide))
theorem lc_18 (C : zC w p s m args c 7 cL_law RL) (hl0 : l.stackTraces = false) (S : zScr w s xs b L) (hi : i + 6 ≤ L) (hcs : cells + 1 ≤ 601024 ∧ slots + 6 ≤ 7293033) (hop : zO_18 h X M O (sx xs (i + 1)) h2)
    (kk : zV w p l e room_1 s m args below meth c 7 (cells + 1) (slots + 6) Q 2686 (zloc b X M O i) [] h2) : zV w p l e room_1 s m args below meth c 7 cells slots Q 962 (zloc b X M O i) [] h := by
  refine v_aload_n C dL_law_962 rfl ?_
  refine v_sarg (k := 1) C S hi (by decide) rfl dL_law_963 dL_law_964 dL_law_966 dL_law_967 dL_law_968 rfl rfl ?_
  refine v_aload_n C dL_law_969 rfl ?_
  rcases hop with ⟨v, g1, g2, g3, g4⟩ | ⟨gx, v, g2, g3⟩
  · refine v_wcall (k := 3) C dL_law_970 mwL_187 (w_carrierOf w l _ _ _ _ v g1) rfl ⟨by decide, by decide⟩ hcs ⟨rfl, Nat.le_of_ble_eq_true rfl⟩ (fun r1 h9 q => ?_)
    rw [q.1, q.2]
    refine v_istore C dL_law_973 (by decide) ?_
    refine v_aload_n C dL_law_975 rfl ?_
    refine v_sarg (k := 1) C S hi (by decide) rfl dL_law_976 dL_law_977 dL_law_979 dL_law_980 dL_law_981 rfl rfl ?_
    refine v_callV (k := 1) C dL_law_982 mvL_189 (cq_X8_carrierOf w l _ _ _ v h2 g2) rfl ⟨by decide, by decide⟩ hcs ⟨rfl, Nat.le_of_ble_eq_true rfl⟩ (fun r2 h9 q => ?_)
    rw [q.1, q.2]
    refine v_istore C dL_law_985 (by decide) ?_
    refine v_aload_n C dL_law_987 rfl ?_
    refine v_callV (k := 0) C dL_law_988 mvL_162 (cq_X8_thrown w l _ _ 0 g3) rfl ⟨by decide, by decide⟩ hcs ⟨rfl, Nat.le_of_ble_eq_true rfl⟩ (fun r3 h9 q => ?_)
    rw [q.1, q.2]
    refine v_iload C dL_law_991 rfl ?_
    refine v_icmp_eq C dL_law_993 (tgt := 998) (by decide) (fun _ => ?_) (fun z => absurd rfl z)
    refine v_iload C dL_law_998 rfl ?_
    refine v_if_ne C dL_law_1000 (tgt := 1015) (by decide) (fun z => absurd rfl z) (fun _ => ?_)
    refine v_aload_n C dL_law_1003 rfl ?_
    refine v_iconst C dL_law_1004 rfl ?_
    exact v_cmpO C (tgt := 1015) g4 dL_law_1005 dL_law_1006 dL_law_1008 dL_law_1009 dL_law_1010 (by decide) rfl (v_goto C dL_law_1015 (tgt := 2686) (by decide) (v_loc (fun k9 v9 h9 => zloc_ok56 h9) kk))
  · refine v_wcall (k := 3) C dL_law_970 mwL_187 (wx_carrierOf w l _ _ _ _ (x_X7_carrierOf w l hl0 _ _ _ gx)) rfl ⟨by decide, by decide⟩ hcs ⟨rfl, Nat.le_of_ble_eq_true rfl⟩ (fun r1 h9 q => ?_)
    rw [q.1, q.2]
    refine v_istore C dL_law_973 (by decide) ?_
    refine v_aload_n C dL_law_975 rfl ?_
    refine v_sarg (k := 1) C S hi (by decide) rfl dL_law_976 dL_law_977 dL_law_979 dL_law_980 dL_law_981 rfl rfl ?_
    refine v_callV (k := 1) C dL_law_982 mvL_189 (cq_X8_carrierOf w l _ _ _ v h2 g2) rfl ⟨by decide, by decide⟩ hcs ⟨rfl, Nat.le_of_ble_eq_true rfl⟩ (fun r2 h9 q => ?_)
    rw [q.1, q.2]
    refine v_istore C dL_law_985 (by decide) ?_
    refine v_aload_n C dL_law_987 rfl ?_
    refine v_callV (k := 0) C dL_law_988 mvL_162 (cq_X8_thrown w l _ _ 1 g3) rfl ⟨by decide, by decide⟩ hcs ⟨rfl, Nat.le_of_ble_eq_true rfl⟩ (fun r3 h9 q => ?_)
    rw [q.1, q.2]
    refine v_iload C dL_law_991 rfl ?_
    refine v_icmp_eq C dL_law_993 (tgt := 998) (by decide) (fun _ => ?_) (fun z => absurd rfl z)
    refine v_iload C dL_law_998 rfl ?_
    exact v_if_ne C dL_law_1000 (tgt := 1015) (by decide) (fun _ => v_goto C dL_law_1015 (tgt := 2686) (by decide) (v_loc (fun k9 v9 h9 => zloc_ok56 h9) kk)) (fun z => absurd z (by decide))
theorem lc_19 (C : zC w p s m args c 7 cL_law RL) (hl0 : l.stackTraces = false) (S : zScr w s xs b L) (hi : i + 6 ≤ L) (hcs : cells + 1 ≤ 601024 ∧ slots + 6 ≤ 7293033) (hop : zO_19 h X M O (sx xs (i + 1)) h2)
    (kk : zV w p l e room_1 s m args below meth c 7 (cells + 1) (slots + 6) Q 2686 (zloc b X M O i) [] h2) : zV w p l e room_1 s m args below meth c 7 cells slots Q 1018 (zloc b X M O i) [] h := by
  refine v_aload_n C dL_law_1018 rfl ?_
  refine v_sarg (k := 1) C S hi (by decide) rfl dL_law_1019 dL_law_1020 dL_law_1022 dL_law_1023 dL_law_1024 rfl rfl ?_
  refine v_aload_n C dL_law_1025 rfl ?_
  rcases hop with ⟨v, g1, g2, g3, g4⟩ | ⟨gx, v, g2, g3⟩
  · refine v_wcall (k := 3) C dL_law_1026 mwL_190 (w_startOf w l _ _ _ _ v g1) rfl ⟨by decide, by decide⟩ hcs ⟨rfl, Nat.le_of_ble_eq_true rfl⟩ (fun r1 h9 q => ?_)
    rw [q.1, q.2]
    refine v_istore C dL_law_1029 (by decide) ?_
    refine v_aload_n C dL_law_1031 rfl ?_
    refine v_sarg (k := 1) C S hi (by decide) rfl dL_law_1032 dL_law_1033 dL_law_1035 dL_law_1036 dL_law_1037 rfl rfl ?_
    refine v_callV (k := 1) C dL_law_1038 mvL_192 (cq_X8_startOf w l _ _ _ v h2 g2) rfl ⟨by decide, by decide⟩ hcs ⟨rfl, Nat.le_of_ble_eq_true rfl⟩ (fun r2 h9 q => ?_)
    rw [q.1, q.2]
    refine v_istore C dL_law_1041 (by decide) ?_
    refine v_aload_n C dL_law_1043 rfl ?_
    refine v_callV (k := 0) C dL_law_1044 mvL_162 (cq_X8_thrown w l _ _ 0 g3) rfl ⟨by decide, by decide⟩ hcs ⟨rfl, Nat.le_of_ble_eq_true rfl⟩ (fun r3 h9 q => ?_)
    rw [q.1, q.2]
    refine v_iload C dL_law_1047 rfl ?_
    refine v_icmp_eq C dL_law_1049 (tgt := 1054) (by decide) (fun _ => ?_) (fun z => absurd rfl z)
    refine v_iload C dL_law_1054 rfl ?_
    refine v_if_ne C dL_law_1056 (tgt := 1071) (by decide) (fun z => absurd rfl z) (fun _ => ?_)
    refine v_aload_n C dL_law_1059 rfl ?_
    refine v_iconst C dL_law_1060 rfl ?_
    exact v_cmpO C (tgt := 1071) g4 dL_law_1061 dL_law_1062 dL_law_1064 dL_law_1065 dL_law_1066 (by decide) rfl (v_goto C dL_law_1071 (tgt := 2686) (by decide) (v_loc (fun k9 v9 h9 => zloc_ok56 h9) kk))
  · refine v_wcall (k := 3) C dL_law_1026 mwL_190 (wx_startOf w l _ _ _ _ (x_X7_startOf w l hl0 _ _ _ gx)) rfl ⟨by decide, by decide⟩ hcs ⟨rfl, Nat.le_of_ble_eq_true rfl⟩ (fun r1 h9 q => ?_)
    rw [q.1, q.2]
    refine v_istore C dL_law_1029 (by decide) ?_
    refine v_aload_n C dL_law_1031 rfl ?_
    refine v_sarg (k := 1) C S hi (by decide) rfl dL_law_1032 dL_law_1033 dL_law_1035 dL_law_1036 dL_law_1037 rfl rfl ?_
    refine v_callV (k := 1) C dL_law_1038 mvL_192 (cq_X8_startOf w l _ _ _ v h2 g2) rfl ⟨by decide, by decide⟩ hcs ⟨rfl, Nat.le_of_ble_eq_true rfl⟩ (fun r2 h9 q => ?_)
    rw [q.1, q.2]
    refine v_istore C dL_law_1041 (by decide) ?_
    refine v_aload_n C dL_law_1043 rfl ?_
    refine v_callV (k := 0) C dL_law_1044 mvL_162 (cq_X8_thrown w l _ _ 1 g3) rfl ⟨by decide, by decide⟩ hcs ⟨rfl, Nat.le_of_ble_eq_true rfl⟩ (fun r3 h9 q => ?_)
    rw [q.1, q.2]
    refine v_iload C dL_law_1047 rfl ?_
    refine v_icmp_eq C dL_law_1049 (tgt := 1054) (by decide) (fun _ => ?_) (fun z => absurd rfl z)
    refine v_iload C dL_law_1054 rfl ?_
    exact v_if_ne C dL_law_1056 (tgt := 1071) (by decide) (fun _ => v_goto C dL_law_1071 (tgt := 2686) (by decide) (v_loc (fun k9 v9 h9 => zloc_ok56 h9) kk)) (fun z => absurd z (by decide))
theorem lc_20 (C : zC w p s m args c 7 cL_law RL) (hl0 : l.stackTraces = false) (S : zScr w s xs b L) (hi : i + 6 ≤ L) (hcs : cells + 1 ≤ 601024 ∧ slots + 6 ≤ 7293033) (hop : zO_20 h X M O (sx xs (i + 1)) h2)
    (kk : zV w p l e room_1 s m args below meth c 7 (cells + 1) (slots + 6) Q 2686 (zloc b X M O i) [] h2) : zV w p l e room_1 s m args below meth c 7 cells slots Q 1074 (zloc b X M O i) [] h := by
  refine v_aload_n C dL_law_1074 rfl ?_
  refine v_sarg (k := 1) C S hi (by decide) rfl dL_law_1075 dL_law_1076 dL_law_1078 dL_law_1079 dL_law_1080 rfl rfl ?_
  refine v_aload_n C dL_law_1081 rfl ?_
  rcases hop with ⟨v, g1, g2, g3, g4⟩ | ⟨gx, v, g2, g3⟩
  · refine v_wcall (k := 3) C dL_law_1082 mwL_193 (w_burstOf w l _ _ _ _ v g1) rfl ⟨by decide, by decide⟩ hcs ⟨rfl, Nat.le_of_ble_eq_true rfl⟩ (fun r1 h9 q => ?_)
    rw [q.1, q.2]
    refine v_istore C dL_law_1085 (by decide) ?_
    refine v_aload_n C dL_law_1087 rfl ?_
    refine v_sarg (k := 1) C S hi (by decide) rfl dL_law_1088 dL_law_1089 dL_law_1091 dL_law_1092 dL_law_1093 rfl rfl ?_
    refine v_callV (k := 1) C dL_law_1094 mvL_195 (cq_X8_burstOf w l _ _ _ v h2 g2) rfl ⟨by decide, by decide⟩ hcs ⟨rfl, Nat.le_of_ble_eq_true rfl⟩ (fun r2 h9 q => ?_)
    rw [q.1, q.2]
    refine v_istore C dL_law_1097 (by decide) ?_
    refine v_aload_n C dL_law_1099 rfl ?_
    refine v_callV (k := 0) C dL_law_1100 mvL_162 (cq_X8_thrown w l _ _ 0 g3) rfl ⟨by decide, by decide⟩ hcs ⟨rfl, Nat.le_of_ble_eq_true rfl⟩ (fun r3 h9 q => ?_)
    rw [q.1, q.2]
    refine v_iload C dL_law_1103 rfl ?_
    refine v_icmp_eq C dL_law_1105 (tgt := 1110) (by decide) (fun _ => ?_) (fun z => absurd rfl z)
    refine v_iload C dL_law_1110 rfl ?_
    refine v_if_ne C dL_law_1112 (tgt := 1127) (by decide) (fun z => absurd rfl z) (fun _ => ?_)
    refine v_aload_n C dL_law_1115 rfl ?_
    refine v_iconst C dL_law_1116 rfl ?_
    exact v_cmpO C (tgt := 1127) g4 dL_law_1117 dL_law_1118 dL_law_1120 dL_law_1121 dL_law_1122 (by decide) rfl (v_goto C dL_law_1127 (tgt := 2686) (by decide) (v_loc (fun k9 v9 h9 => zloc_ok56 h9) kk))
  · refine v_wcall (k := 3) C dL_law_1082 mwL_193 (wx_burstOf w l _ _ _ _ (x_X7_burstOf w l hl0 _ _ _ gx)) rfl ⟨by decide, by decide⟩ hcs ⟨rfl, Nat.le_of_ble_eq_true rfl⟩ (fun r1 h9 q => ?_)
    rw [q.1, q.2]
    refine v_istore C dL_law_1085 (by decide) ?_
    refine v_aload_n C dL_law_1087 rfl ?_
    refine v_sarg (k := 1) C S hi (by decide) rfl dL_law_1088 dL_law_1089 dL_law_1091 dL_law_1092 dL_law_1093 rfl rfl ?_
    refine v_callV (k := 1) C dL_law_1094 mvL_195 (cq_X8_burstOf w l _ _ _ v h2 g2) rfl ⟨by decide, by decide⟩ hcs ⟨rfl, Nat.le_of_ble_eq_true rfl⟩ (fun r2 h9 q => ?_)
    rw [q.1, q.2]
    refine v_istore C dL_law_1097 (by decide) ?_
    refine v_aload_n C dL_law_1099 rfl ?_
    refine v_callV (k := 0) C dL_law_1100 mvL_162 (cq_X8_thrown w l _ _ 1 g3) rfl ⟨by decide, by decide⟩ hcs ⟨rfl, Nat.le_of_ble_eq_true rfl⟩ (fun r3 h9 q => ?_)
    rw [q.1, q.2]
    refine v_iload C dL_law_1103 rfl ?_
    refine v_icmp_eq C dL_law_1105 (tgt := 1110) (by decide) (fun _ => ?_) (fun z => absurd rfl z)
    refine v_iload C dL_law_1110 rfl ?_
    exact v_if_ne C dL_law_1112 (tgt := 1127) (by decide) (fun _ => v_goto C dL_law_1127 (tgt := 2686) (by decide) (v_loc (fun k9 v9 h9 => zloc_ok56 h9) kk)) (fun z => absurd z (by decide))
theorem lc_21 (C : zC w p s m args c 7 cL_law RL) (hl0 : l.stackTraces = false) (S : zScr w s xs b L) (hi : i + 6 ≤ L) (hcs : cells + 1 ≤ 601024 ∧ slots + 6 ≤ 7293033) (hop : zO_21 h X M O (sx xs (i + 1)) h2)
    (kk : zV w p l e room_1 s m args below meth c 7 (cells + 1) (slots + 6) Q 2686 (zloc b X M O i) [] h2) : zV w p l e room_1 s m args below meth c 7 cells slots Q 1130 (zloc b X M O i) [] h := by
  refine v_aload_n C dL_law_1130 rfl ?_
  refine v_sarg (k := 1) C S hi (by decide) rfl dL_law_1131 dL_law_1132 dL_law_1134 dL_law_1135 dL_law_1136 rfl rfl ?_
  refine v_aload_n C dL_law_1137 rfl ?_
  rcases hop with ⟨v, g1, g2, g3, g4⟩ | ⟨gx, v, g2, g3⟩
  · refine v_wcall (k := 3) C dL_law_1138 mwL_196 (w_sendOffset w l _ _ _ _ v g1) rfl ⟨by decide, by decide⟩ hcs ⟨rfl, Nat.le_of_ble_eq_true rfl⟩ (fun r1 h9 q => ?_)
    rw [q.1, q.2]
    refine v_istore C dL_law_1141 (by decide) ?_
    refine v_aload_n C dL_law_1143 rfl ?_
    refine v_sarg (k := 1) C S hi (by decide) rfl dL_law_1144 dL_law_1145 dL_law_1147 dL_law_1148 dL_law_1149 rfl rfl ?_
    refine v_callV (k := 1) C dL_law_1150 mvL_198 (cq_X8_sendOffset w l _ _ _ v h2 g2) rfl ⟨by decide, by decide⟩ hcs ⟨rfl, Nat.le_of_ble_eq_true rfl⟩ (fun r2 h9 q => ?_)
    rw [q.1, q.2]
    refine v_istore C dL_law_1153 (by decide) ?_
    refine v_aload_n C dL_law_1155 rfl ?_
    refine v_callV (k := 0) C dL_law_1156 mvL_162 (cq_X8_thrown w l _ _ 0 g3) rfl ⟨by decide, by decide⟩ hcs ⟨rfl, Nat.le_of_ble_eq_true rfl⟩ (fun r3 h9 q => ?_)
    rw [q.1, q.2]
    refine v_iload C dL_law_1159 rfl ?_
    refine v_icmp_eq C dL_law_1161 (tgt := 1166) (by decide) (fun _ => ?_) (fun z => absurd rfl z)
    refine v_iload C dL_law_1166 rfl ?_
    refine v_if_ne C dL_law_1168 (tgt := 1183) (by decide) (fun z => absurd rfl z) (fun _ => ?_)
    refine v_aload_n C dL_law_1171 rfl ?_
    refine v_iconst C dL_law_1172 rfl ?_
    exact v_cmpO C (tgt := 1183) g4 dL_law_1173 dL_law_1174 dL_law_1176 dL_law_1177 dL_law_1178 (by decide) rfl (v_goto C dL_law_1183 (tgt := 2686) (by decide) (v_loc (fun k9 v9 h9 => zloc_ok56 h9) kk))
  · refine v_wcall (k := 3) C dL_law_1138 mwL_196 (wx_sendOffset w l _ _ _ _ (x_X7_sendOffset w l hl0 _ _ _ gx)) rfl ⟨by decide, by decide⟩ hcs ⟨rfl, Nat.le_of_ble_eq_true rfl⟩ (fun r1 h9 q => ?_)
    rw [q.1, q.2]
    refine v_istore C dL_law_1141 (by decide) ?_
    refine v_aload_n C dL_law_1143 rfl ?_
    refine v_sarg (k := 1) C S hi (by decide) rfl dL_law_1144 dL_law_1145 dL_law_1147 dL_law_1148 dL_law_1149 rfl rfl ?_
    refine v_callV (k := 1) C dL_law_1150 mvL_198 (cq_X8_sendOffset w l _ _ _ v h2 g2) rfl ⟨by decide, by decide⟩ hcs ⟨rfl, Nat.le_of_ble_eq_true rfl⟩ (fun r2 h9 q => ?_)
    rw [q.1, q.2]
    refine v_istore C dL_law_1153 (by decide) ?_
    refine v_aload_n C dL_law_1155 rfl ?_
    refine v_callV (k := 0) C dL_law_1156 mvL_162 (cq_X8_thrown w l _ _ 1 g3) rfl ⟨by decide, by decide⟩ hcs ⟨rfl, Nat.le_of_ble_eq_true rfl⟩ (fun r3 h9 q => ?_)
    rw [q.1, q.2]
    refine v_iload C dL_law_1159 rfl ?_
    refine v_icmp_eq C dL_law_1161 (tgt := 1166) (by decide) (fun _ => ?_) (fun z => absurd rfl z)
    refine v_iload C dL_law_1166 rfl ?_
    exact v_if_ne C dL_law_1168 (tgt := 1183) (by decide) (fun _ => v_goto C dL_law_1183 (tgt := 2686) (by decide) (v_loc (fun k9 v9 h9 => zloc_ok56 h9) kk)) (fun z => absurd z (by decide))
theorem lc_22 (C : zC w p s m args c 7 cL_law RL) (hl0 : l.stackTraces = false) (S : zScr w s xs b L) (hi : i + 6 ≤ L) (hcs : cells + 1 ≤ 601024 ∧ slots + 6 ≤ 7293033) (hop : zO_22 h X M O (sx xs (i + 1)) h2)
    (kk : zV w p l e room_1 s m args below meth c 7 (cells + 1) (slots + 6) Q 2686 (zloc b X M O i) [] h2) : zV w p l e room_1 s m args below meth c 7 cells slots Q 1186 (zloc b X M O i) [] h := by
  refine v_aload_n C dL_law_1186 rfl ?_
  refine v_sarg (k := 1) C S hi (by decide) rfl dL_law_1187 dL_law_1188 dL_law_1190 dL_law_1191 dL_law_1192 rfl rfl ?_
  refine v_aload_n C dL_law_1193 rfl ?_
  rcases hop with ⟨v, g1, g2, g3, g4⟩ | ⟨gx, v, g2, g3⟩
  · refine v_wcall (k := 3) C dL_law_1194 mwL_199 (w_endOf w l _ _ _ _ v g1) rfl ⟨by decide, by decide⟩ hcs ⟨rfl, Nat.le_of_ble_eq_true rfl⟩ (fun r1 h9 q => ?_)
    rw [q.1, q.2]
    refine v_istore C dL_law_1197 (by decide) ?_
    refine v_aload_n C dL_law_1199 rfl ?_
    refine v_sarg (k := 1) C S hi (by decide) rfl dL_law_1200 dL_law_1201 dL_law_1203 dL_law_1204 dL_law_1205 rfl rfl ?_
    refine v_callV (k := 1) C dL_law_1206 mvL_201 (cq_X8_endOf w l _ _ _ v h2 g2) rfl ⟨by decide, by decide⟩ hcs ⟨rfl, Nat.le_of_ble_eq_true rfl⟩ (fun r2 h9 q => ?_)
    rw [q.1, q.2]
    refine v_istore C dL_law_1209 (by decide) ?_
    refine v_aload_n C dL_law_1211 rfl ?_
    refine v_callV (k := 0) C dL_law_1212 mvL_162 (cq_X8_thrown w l _ _ 0 g3) rfl ⟨by decide, by decide⟩ hcs ⟨rfl, Nat.le_of_ble_eq_true rfl⟩ (fun r3 h9 q => ?_)
    rw [q.1, q.2]
    refine v_iload C dL_law_1215 rfl ?_
    refine v_icmp_eq C dL_law_1217 (tgt := 1222) (by decide) (fun _ => ?_) (fun z => absurd rfl z)
    refine v_iload C dL_law_1222 rfl ?_
    refine v_if_ne C dL_law_1224 (tgt := 1239) (by decide) (fun z => absurd rfl z) (fun _ => ?_)
    refine v_aload_n C dL_law_1227 rfl ?_
    refine v_iconst C dL_law_1228 rfl ?_
    exact v_cmpO C (tgt := 1239) g4 dL_law_1229 dL_law_1230 dL_law_1232 dL_law_1233 dL_law_1234 (by decide) rfl (v_goto C dL_law_1239 (tgt := 2686) (by decide) (v_loc (fun k9 v9 h9 => zloc_ok56 h9) kk))
  · refine v_wcall (k := 3) C dL_law_1194 mwL_199 (wx_endOf w l _ _ _ _ (x_X7_endOf w l hl0 _ _ _ gx)) rfl ⟨by decide, by decide⟩ hcs ⟨rfl, Nat.le_of_ble_eq_true rfl⟩ (fun r1 h9 q => ?_)
    rw [q.1, q.2]
    refine v_istore C dL_law_1197 (by decide) ?_
    refine v_aload_n C dL_law_1199 rfl ?_
    refine v_sarg (k := 1) C S hi (by decide) rfl dL_law_1200 dL_law_1201 dL_law_1203 dL_law_1204 dL_law_1205 rfl rfl ?_
    refine v_callV (k := 1) C dL_law_1206 mvL_201 (cq_X8_endOf w l _ _ _ v h2 g2) rfl ⟨by decide, by decide⟩ hcs ⟨rfl, Nat.le_of_ble_eq_true rfl⟩ (fun r2 h9 q => ?_)
    rw [q.1, q.2]
    refine v_istore C dL_law_1209 (by decide) ?_
    refine v_aload_n C dL_law_1211 rfl ?_
    refine v_callV (k := 0) C dL_law_1212 mvL_162 (cq_X8_thrown w l _ _ 1 g3) rfl ⟨by decide, by decide⟩ hcs ⟨rfl, Nat.le_of_ble_eq_true rfl⟩ (fun r3 h9 q => ?_)
    rw [q.1, q.2]
    refine v_iload C dL_law_1215 rfl ?_
    refine v_icmp_eq C dL_law_1217 (tgt := 1222) (by decide) (fun _ => ?_) (fun z => absurd rfl z)
    refine v_iload C dL_law_1222 rfl ?_
    exact v_if_ne C dL_law_1224 (tgt := 1239) (by decide) (fun _ => v_goto C dL_law_1239 (tgt := 2686) (by decide) (v_loc (fun k9 v9 h9 => zloc_ok56 h9) kk)) (fun z => absurd z (by decide))
theorem lc_23 (C : zC w p s m args c 7 cL_law RL) (hl0 : l.stackTraces = false) (S : zScr w s xs b L) (hi : i + 6 ≤ L) (hcs : cells + 1 ≤ 601024 ∧ slots + 6 ≤ 7293033) (hop : zO_23 h X M O (sx xs (i + 1)) h2)
    (kk : zV w p l e room_1 s m args below meth c 7 (cells + 1) (slots + 6) Q 2686 (zloc b X M O i) [] h2) : zV w p l e room_1 s m args below meth c 7 cells slots Q 1242 (zloc b X M O i) [] h := by
  refine v_aload_n C dL_law_1242 rfl ?_
  refine v_sarg (k := 1) C S hi (by decide) rfl dL_law_1243 dL_law_1244 dL_law_1246 dL_law_1247 dL_law_1248 rfl rfl ?_
  refine v_aload_n C dL_law_1249 rfl ?_
  rcases hop with ⟨v, g1, g2, g3, g4⟩ | ⟨gx, v, g2, g3⟩
  · refine v_wcall (k := 3) C dL_law_1250 mwL_202 (w_waitOf w l _ _ _ _ v g1) rfl ⟨by decide, by decide⟩ hcs ⟨rfl, Nat.le_of_ble_eq_true rfl⟩ (fun r1 h9 q => ?_)
    rw [q.1, q.2]
    refine v_istore C dL_law_1253 (by decide) ?_
    refine v_aload_n C dL_law_1255 rfl ?_
    refine v_sarg (k := 1) C S hi (by decide) rfl dL_law_1256 dL_law_1257 dL_law_1259 dL_law_1260 dL_law_1261 rfl rfl ?_
    refine v_callV (k := 1) C dL_law_1262 mvL_204 (cq_X8_waitOf w l _ _ _ v h2 g2) rfl ⟨by decide, by decide⟩ hcs ⟨rfl, Nat.le_of_ble_eq_true rfl⟩ (fun r2 h9 q => ?_)
    rw [q.1, q.2]
    refine v_istore C dL_law_1265 (by decide) ?_
    refine v_aload_n C dL_law_1267 rfl ?_
    refine v_callV (k := 0) C dL_law_1268 mvL_162 (cq_X8_thrown w l _ _ 0 g3) rfl ⟨by decide, by decide⟩ hcs ⟨rfl, Nat.le_of_ble_eq_true rfl⟩ (fun r3 h9 q => ?_)
    rw [q.1, q.2]
    refine v_iload C dL_law_1271 rfl ?_
    refine v_icmp_eq C dL_law_1273 (tgt := 1278) (by decide) (fun _ => ?_) (fun z => absurd rfl z)
    refine v_iload C dL_law_1278 rfl ?_
    refine v_if_ne C dL_law_1280 (tgt := 1295) (by decide) (fun z => absurd rfl z) (fun _ => ?_)
    refine v_aload_n C dL_law_1283 rfl ?_
    refine v_iconst C dL_law_1284 rfl ?_
    exact v_cmpO C (tgt := 1295) g4 dL_law_1285 dL_law_1286 dL_law_1288 dL_law_1289 dL_law_1290 (by decide) rfl (v_goto C dL_law_1295 (tgt := 2686) (by decide) (v_loc (fun k9 v9 h9 => zloc_ok56 h9) kk))
  · refine v_wcall (k := 3) C dL_law_1250 mwL_202 (wx_waitOf w l _ _ _ _ (x_X7_waitOf w l hl0 _ _ _ gx)) rfl ⟨by decide, by decide⟩ hcs ⟨rfl, Nat.le_of_ble_eq_true rfl⟩ (fun r1 h9 q => ?_)
    rw [q.1, q.2]
    refine v_istore C dL_law_1253 (by decide) ?_
    refine v_aload_n C dL_law_1255 rfl ?_
    refine v_sarg (k := 1) C S hi (by decide) rfl dL_law_1256 dL_law_1257 dL_law_1259 dL_law_1260 dL_law_1261 rfl rfl ?_
    refine v_callV (k := 1) C dL_law_1262 mvL_204 (cq_X8_waitOf w l _ _ _ v h2 g2) rfl ⟨by decide, by decide⟩ hcs ⟨rfl, Nat.le_of_ble_eq_true rfl⟩ (fun r2 h9 q => ?_)
    rw [q.1, q.2]
    refine v_istore C dL_law_1265 (by decide) ?_
    refine v_aload_n C dL_law_1267 rfl ?_
    refine v_callV (k := 0) C dL_law_1268 mvL_162 (cq_X8_thrown w l _ _ 1 g3) rfl ⟨by decide, by decide⟩ hcs ⟨rfl, Nat.le_of_ble_eq_true rfl⟩ (fun r3 h9 q => ?_)
    rw [q.1, q.2]
    refine v_iload C dL_law_1271 rfl ?_
    refine v_icmp_eq C dL_law_1273 (tgt := 1278) (by decide) (fun _ => ?_) (fun z => absurd rfl z)
    refine v_iload C dL_law_1278 rfl ?_
    exact v_if_ne C dL_law_1280 (tgt := 1295) (by decide) (fun _ => v_goto C dL_law_1295 (tgt := 2686) (by decide) (v_loc (fun k9 v9 h9 => zloc_ok56 h9) kk)) (fun z => absurd z (by decide))
theorem lc_24 (C : zC w p s m args c 7 cL_law RL) (hl0 : l.stackTraces = false) (S : zScr w s xs b L) (hi : i + 6 ≤ L) (hcs : cells + 1 ≤ 601024 ∧ slots + 6 ≤ 7293033) (hop : zO_24 h X M O (sx xs (i + 1)) h2)
    (kk : zV w p l e room_1 s m args below meth c 7 (cells + 1) (slots + 6) Q 2686 (zloc b X M O i) [] h2) : zV w p l e room_1 s m args below meth c 7 cells slots Q 1298 (zloc b X M O i) [] h := by
  refine v_aload_n C dL_law_1298 rfl ?_
  refine v_sarg (k := 1) C S hi (by decide) rfl dL_law_1299 dL_law_1300 dL_law_1302 dL_law_1303 dL_law_1304 rfl rfl ?_
  refine v_aload_n C dL_law_1305 rfl ?_
  rcases hop with ⟨v, g1, g2, g3, g4⟩ | ⟨gx, v, g2, g3⟩
  · refine v_wcall (k := 3) C dL_law_1306 mwL_205 (w_marginOf w l _ _ _ _ v g1) rfl ⟨by decide, by decide⟩ hcs ⟨rfl, Nat.le_of_ble_eq_true rfl⟩ (fun r1 h9 q => ?_)
    rw [q.1, q.2]
    refine v_istore C dL_law_1309 (by decide) ?_
    refine v_aload_n C dL_law_1311 rfl ?_
    refine v_sarg (k := 1) C S hi (by decide) rfl dL_law_1312 dL_law_1313 dL_law_1315 dL_law_1316 dL_law_1317 rfl rfl ?_
    refine v_callV (k := 1) C dL_law_1318 mvL_207 (cq_X8_marginOf w l _ _ _ v h2 g2) rfl ⟨by decide, by decide⟩ hcs ⟨rfl, Nat.le_of_ble_eq_true rfl⟩ (fun r2 h9 q => ?_)
    rw [q.1, q.2]
    refine v_istore C dL_law_1321 (by decide) ?_
    refine v_aload_n C dL_law_1323 rfl ?_
    refine v_callV (k := 0) C dL_law_1324 mvL_162 (cq_X8_thrown w l _ _ 0 g3) rfl ⟨by decide, by decide⟩ hcs ⟨rfl, Nat.le_of_ble_eq_true rfl⟩ (fun r3 h9 q => ?_)
    rw [q.1, q.2]
    refine v_iload C dL_law_1327 rfl ?_
    refine v_icmp_eq C dL_law_1329 (tgt := 1334) (by decide) (fun _ => ?_) (fun z => absurd rfl z)
    refine v_iload C dL_law_1334 rfl ?_
    refine v_if_ne C dL_law_1336 (tgt := 1351) (by decide) (fun z => absurd rfl z) (fun _ => ?_)
    refine v_aload_n C dL_law_1339 rfl ?_
    refine v_iconst C dL_law_1340 rfl ?_
    exact v_cmpO C (tgt := 1351) g4 dL_law_1341 dL_law_1342 dL_law_1344 dL_law_1345 dL_law_1346 (by decide) rfl (v_goto C dL_law_1351 (tgt := 2686) (by decide) (v_loc (fun k9 v9 h9 => zloc_ok56 h9) kk))
  · refine v_wcall (k := 3) C dL_law_1306 mwL_205 (wx_marginOf w l _ _ _ _ (x_X7_marginOf w l hl0 _ _ _ gx)) rfl ⟨by decide, by decide⟩ hcs ⟨rfl, Nat.le_of_ble_eq_true rfl⟩ (fun r1 h9 q => ?_)
    rw [q.1, q.2]
    refine v_istore C dL_law_1309 (by decide) ?_
    refine v_aload_n C dL_law_1311 rfl ?_
    refine v_sarg (k := 1) C S hi (by decide) rfl dL_law_1312 dL_law_1313 dL_law_1315 dL_law_1316 dL_law_1317 rfl rfl ?_
    refine v_callV (k := 1) C dL_law_1318 mvL_207 (cq_X8_marginOf w l _ _ _ v h2 g2) rfl ⟨by decide, by decide⟩ hcs ⟨rfl, Nat.le_of_ble_eq_true rfl⟩ (fun r2 h9 q => ?_)
    rw [q.1, q.2]
    refine v_istore C dL_law_1321 (by decide) ?_
    refine v_aload_n C dL_law_1323 rfl ?_
    refine v_callV (k := 0) C dL_law_1324 mvL_162 (cq_X8_thrown w l _ _ 1 g3) rfl ⟨by decide, by decide⟩ hcs ⟨rfl, Nat.le_of_ble_eq_true rfl⟩ (fun r3 h9 q => ?_)
    rw [q.1, q.2]
    refine v_iload C dL_law_1327 rfl ?_
    refine v_icmp_eq C dL_law_1329 (tgt := 1334) (by decide) (fun _ => ?_) (fun z => absurd rfl z)
    refine v_iload C dL_law_1334 rfl ?_
    exact v_if_ne C dL_law_1336 (tgt := 1351) (by decide) (fun _ => v_goto C dL_law_1351 (tgt := 2686) (by decide) (v_loc (fun k9 v9 h9 => zloc_ok56 h9) kk)) (fun z => absurd z (by decide))
theorem lc_25 (C : zC w p s m args c 7 cL_law RL) (hl0 : l.stackTraces = false) (S : zScr w s xs b L) (hi : i + 6 ≤ L) (hcs : cells + 1 ≤ 601024 ∧ slots + 6 ≤ 7293033) (hop : zO_25 h X M O (sx xs (i + 1)) h2)
    (kk : zV w p l e room_1 s m args below meth c 7 (cells + 1) (slots + 6) Q 2686 (zloc b X M O i) [] h2) : zV w p l e room_1 s m args below meth c 7 cells slots Q 1354 (zloc b X M O i) [] h := by
  refine v_aload_n C dL_law_1354 rfl ?_
  refine v_sarg (k := 1) C S hi (by decide) rfl dL_law_1355 dL_law_1356 dL_law_1358 dL_law_1359 dL_law_1360 rfl rfl ?_
  refine v_aload_n C dL_law_1361 rfl ?_
  rcases hop with ⟨v, g1, g2, g3, g4⟩ | ⟨gx, v, g2, g3⟩
  · refine v_wcall (k := 3) C dL_law_1362 mwL_208 (w_degradedFrames w l _ _ _ _ v g1) rfl ⟨by decide, by decide⟩ hcs ⟨rfl, Nat.le_of_ble_eq_true rfl⟩ (fun r1 h9 q => ?_)
    rw [q.1, q.2]
    refine v_istore C dL_law_1365 (by decide) ?_
    refine v_aload_n C dL_law_1367 rfl ?_
    refine v_sarg (k := 1) C S hi (by decide) rfl dL_law_1368 dL_law_1369 dL_law_1371 dL_law_1372 dL_law_1373 rfl rfl ?_
    refine v_callV (k := 1) C dL_law_1374 mvL_210 (cq_X8_degradedFrames w l _ _ _ v h2 g2) rfl ⟨by decide, by decide⟩ hcs ⟨rfl, Nat.le_of_ble_eq_true rfl⟩ (fun r2 h9 q => ?_)
    rw [q.1, q.2]
    refine v_istore C dL_law_1377 (by decide) ?_
    refine v_aload_n C dL_law_1379 rfl ?_
    refine v_callV (k := 0) C dL_law_1380 mvL_162 (cq_X8_thrown w l _ _ 0 g3) rfl ⟨by decide, by decide⟩ hcs ⟨rfl, Nat.le_of_ble_eq_true rfl⟩ (fun r3 h9 q => ?_)
    rw [q.1, q.2]
    refine v_iload C dL_law_1383 rfl ?_
    refine v_icmp_eq C dL_law_1385 (tgt := 1390) (by decide) (fun _ => ?_) (fun z => absurd rfl z)
    refine v_iload C dL_law_1390 rfl ?_
    refine v_if_ne C dL_law_1392 (tgt := 1407) (by decide) (fun z => absurd rfl z) (fun _ => ?_)
    refine v_aload_n C dL_law_1395 rfl ?_
    refine v_iconst C dL_law_1396 rfl ?_
    exact v_cmpO C (tgt := 1407) g4 dL_law_1397 dL_law_1398 dL_law_1400 dL_law_1401 dL_law_1402 (by decide) rfl (v_goto C dL_law_1407 (tgt := 2686) (by decide) (v_loc (fun k9 v9 h9 => zloc_ok56 h9) kk))
  · refine v_wcall (k := 3) C dL_law_1362 mwL_208 (wx_degradedFrames w l _ _ _ _ (x_X7_degradedFrames w l hl0 _ _ _ gx)) rfl ⟨by decide, by decide⟩ hcs ⟨rfl, Nat.le_of_ble_eq_true rfl⟩ (fun r1 h9 q => ?_)
    rw [q.1, q.2]
    refine v_istore C dL_law_1365 (by decide) ?_
    refine v_aload_n C dL_law_1367 rfl ?_
    refine v_sarg (k := 1) C S hi (by decide) rfl dL_law_1368 dL_law_1369 dL_law_1371 dL_law_1372 dL_law_1373 rfl rfl ?_
    refine v_callV (k := 1) C dL_law_1374 mvL_210 (cq_X8_degradedFrames w l _ _ _ v h2 g2) rfl ⟨by decide, by decide⟩ hcs ⟨rfl, Nat.le_of_ble_eq_true rfl⟩ (fun r2 h9 q => ?_)
    rw [q.1, q.2]
    refine v_istore C dL_law_1377 (by decide) ?_
    refine v_aload_n C dL_law_1379 rfl ?_
    refine v_callV (k := 0) C dL_law_1380 mvL_162 (cq_X8_thrown w l _ _ 1 g3) rfl ⟨by decide, by decide⟩ hcs ⟨rfl, Nat.le_of_ble_eq_true rfl⟩ (fun r3 h9 q => ?_)
    rw [q.1, q.2]
    refine v_iload C dL_law_1383 rfl ?_
    refine v_icmp_eq C dL_law_1385 (tgt := 1390) (by decide) (fun _ => ?_) (fun z => absurd rfl z)
    refine v_iload C dL_law_1390 rfl ?_
    exact v_if_ne C dL_law_1392 (tgt := 1407) (by decide) (fun _ => v_goto C dL_law_1407 (tgt := 2686) (by decide) (v_loc (fun k9 v9 h9 => zloc_ok56 h9) kk)) (fun z => absurd z (by decide))
theorem lc_26 (C : zC w p s m args c 7 cL_law RL) (S : zScr w s xs b L) (hi : i + 6 ≤ L) (hcs : cells + 1 ≤ 601024 ∧ slots + 6 ≤ 7293033) (hop : zO_26 h X M (sx xs (i + 1)) h2)
    (kk : zV w p l e room_1 s m args below meth c 7 (cells + 1) (slots + 6) Q 2686 (zloc b X M O i) [] h2) : zV w p l e room_1 s m args below meth c 7 cells slots Q 1410 (zloc b X M O i) [] h := by
  obtain ⟨v, g1, g2⟩ := hop
  refine v_more (Nat.le_succ _) (Nat.le_add_right _ 6) ?_
  refine v_aload_n C dL_law_1410 rfl ?_
  refine v_sarg (k := 1) C S hi (by decide) rfl dL_law_1411 dL_law_1412 dL_law_1414 dL_law_1415 dL_law_1416 rfl rfl ?_
  refine v_callV (k := 1) C dL_law_1417 mvL_211 (cq_X7_queuedAt w l _ _ _ v g1) rfl ⟨by decide, by decide⟩ hcs ⟨rfl, Nat.le_of_ble_eq_true rfl⟩ (fun r1 h9 q => ?_)
  rw [q.1, q.2]
  refine v_aload_n C dL_law_1420 rfl ?_
  refine v_sarg (k := 1) C S hi (by decide) rfl dL_law_1421 dL_law_1422 dL_law_1424 dL_law_1425 dL_law_1426 rfl rfl ?_
  refine v_callV (k := 1) C dL_law_1427 mvL_214 (cq_X8_queuedAt w l _ _ _ v h2 g2) rfl ⟨by decide, by decide⟩ hcs ⟨rfl, Nat.le_of_ble_eq_true rfl⟩ (fun r2 h9 q => ?_)
  rw [q.1, q.2]
  exact v_icmp_eq C dL_law_1430 (tgt := 2686) (by decide) (fun _ => kk) (fun z => absurd rfl z)
theorem lc_27 (C : zC w p s m args c 7 cL_law RL) (S : zScr w s xs b L) (hi : i + 6 ≤ L) (hcs : cells + 1 ≤ 601024 ∧ slots + 6 ≤ 7293033) (hop : zO_27 h X M  h2)
    (kk : zV w p l e room_1 s m args below meth c 7 (cells + 1) (slots + 6) Q 2686 (zloc b X M O i) [] h2) : zV w p l e room_1 s m args below meth c 7 cells slots Q 1435 (zloc b X M O i) [] h := by
  obtain ⟨v, g1, g2⟩ := hop
  refine v_more (Nat.le_succ _) (Nat.le_add_right _ 6) ?_
  refine v_aload_n C dL_law_1435 rfl ?_
  refine v_callV (k := 0) C dL_law_1436 mvL_215 (cq_X7_queueLength w l _ _ v g1) rfl ⟨by decide, by decide⟩ hcs ⟨rfl, Nat.le_of_ble_eq_true rfl⟩ (fun r1 h9 q => ?_)
  rw [q.1, q.2]
  refine v_aload_n C dL_law_1439 rfl ?_
  refine v_callV (k := 0) C dL_law_1440 mvL_218 (cq_X8_queueLength w l _ _ v h2 g2) rfl ⟨by decide, by decide⟩ hcs ⟨rfl, Nat.le_of_ble_eq_true rfl⟩ (fun r2 h9 q => ?_)
  rw [q.1, q.2]
  exact v_icmp_eq C dL_law_1443 (tgt := 2686) (by decide) (fun _ => kk) (fun z => absurd rfl z)
theorem lc_28 (C : zC w p s m args c 7 cL_law RL) (hl0 : l.stackTraces = false) (S : zScr w s xs b L) (hi : i + 6 ≤ L) (hcs : cells + 1 ≤ 601024 ∧ slots + 6 ≤ 7293033) (hop : zO_28 h X M O (sx xs (i + 1)) h2)
    (kk : zV w p l e room_1 s m args below meth c 7 (cells + 1) (slots + 6) Q 2686 (zloc b X M O i) [] h2) : zV w p l e room_1 s m args below meth c 7 cells slots Q 1448 (zloc b X M O i) [] h := by
  refine v_aload_n C dL_law_1448 rfl ?_
  refine v_sarg (k := 1) C S hi (by decide) rfl dL_law_1449 dL_law_1450 dL_law_1452 dL_law_1453 dL_law_1454 rfl rfl ?_
  refine v_aload_n C dL_law_1455 rfl ?_
  rcases hop with ⟨v, g1, g2, g3, g4⟩ | ⟨gx, v, g2, g3⟩
  · refine v_wcall (k := 3) C dL_law_1456 mwL_219 (w_callsOn w l _ _ _ _ v g1) rfl ⟨by decide, by decide⟩ hcs ⟨rfl, Nat.le_of_ble_eq_true rfl⟩ (fun r1 h9 q => ?_)
    rw [q.1, q.2]
    refine v_istore C dL_law_1459 (by decide) ?_
    refine v_aload_n C dL_law_1461 rfl ?_
    refine v_sarg (k := 1) C S hi (by decide) rfl dL_law_1462 dL_law_1463 dL_law_1465 dL_law_1466 dL_law_1467 rfl rfl ?_
    refine v_callV (k := 1) C dL_law_1468 mvL_221 (cq_X8_callsOn w l _ _ _ v h2 g2) rfl ⟨by decide, by decide⟩ hcs ⟨rfl, Nat.le_of_ble_eq_true rfl⟩ (fun r2 h9 q => ?_)
    rw [q.1, q.2]
    refine v_istore C dL_law_1471 (by decide) ?_
    refine v_aload_n C dL_law_1473 rfl ?_
    refine v_callV (k := 0) C dL_law_1474 mvL_162 (cq_X8_thrown w l _ _ 0 g3) rfl ⟨by decide, by decide⟩ hcs ⟨rfl, Nat.le_of_ble_eq_true rfl⟩ (fun r3 h9 q => ?_)
    rw [q.1, q.2]
    refine v_iload C dL_law_1477 rfl ?_
    refine v_icmp_eq C dL_law_1479 (tgt := 1484) (by decide) (fun _ => ?_) (fun z => absurd rfl z)
    refine v_iload C dL_law_1484 rfl ?_
    refine v_if_ne C dL_law_1486 (tgt := 1501) (by decide) (fun z => absurd rfl z) (fun _ => ?_)
    refine v_aload_n C dL_law_1489 rfl ?_
    refine v_iconst C dL_law_1490 rfl ?_
    exact v_cmpO C (tgt := 1501) g4 dL_law_1491 dL_law_1492 dL_law_1494 dL_law_1495 dL_law_1496 (by decide) rfl (v_goto C dL_law_1501 (tgt := 2686) (by decide) (v_loc (fun k9 v9 h9 => zloc_ok56 h9) kk))
  · refine v_wcall (k := 3) C dL_law_1456 mwL_219 (wx_callsOn w l _ _ _ _ (x_X7_callsOn w l hl0 _ _ _ gx)) rfl ⟨by decide, by decide⟩ hcs ⟨rfl, Nat.le_of_ble_eq_true rfl⟩ (fun r1 h9 q => ?_)
    rw [q.1, q.2]
    refine v_istore C dL_law_1459 (by decide) ?_
    refine v_aload_n C dL_law_1461 rfl ?_
    refine v_sarg (k := 1) C S hi (by decide) rfl dL_law_1462 dL_law_1463 dL_law_1465 dL_law_1466 dL_law_1467 rfl rfl ?_
    refine v_callV (k := 1) C dL_law_1468 mvL_221 (cq_X8_callsOn w l _ _ _ v h2 g2) rfl ⟨by decide, by decide⟩ hcs ⟨rfl, Nat.le_of_ble_eq_true rfl⟩ (fun r2 h9 q => ?_)
    rw [q.1, q.2]
    refine v_istore C dL_law_1471 (by decide) ?_
    refine v_aload_n C dL_law_1473 rfl ?_
    refine v_callV (k := 0) C dL_law_1474 mvL_162 (cq_X8_thrown w l _ _ 1 g3) rfl ⟨by decide, by decide⟩ hcs ⟨rfl, Nat.le_of_ble_eq_true rfl⟩ (fun r3 h9 q => ?_)
    rw [q.1, q.2]
    refine v_iload C dL_law_1477 rfl ?_
    refine v_icmp_eq C dL_law_1479 (tgt := 1484) (by decide) (fun _ => ?_) (fun z => absurd rfl z)
    refine v_iload C dL_law_1484 rfl ?_
    exact v_if_ne C dL_law_1486 (tgt := 1501) (by decide) (fun _ => v_goto C dL_law_1501 (tgt := 2686) (by decide) (v_loc (fun k9 v9 h9 => zloc_ok56 h9) kk)) (fun z => absurd z (by decide))
theorem lc_29 (C : zC w p s m args c 7 cL_law RL) (hl0 : l.stackTraces = false) (S : zScr w s xs b L) (hi : i + 6 ≤ L) (hcs : cells + 1 ≤ 601024 ∧ slots + 6 ≤ 7293033) (hop : zO_29 h X M O (sx xs (i + 1)) h2)
    (kk : zV w p l e room_1 s m args below meth c 7 (cells + 1) (slots + 6) Q 2686 (zloc b X M O i) [] h2) : zV w p l e room_1 s m args below meth c 7 cells slots Q 1504 (zloc b X M O i) [] h := by
  refine v_aload_n C dL_law_1504 rfl ?_
  refine v_sarg (k := 1) C S hi (by decide) rfl dL_law_1505 dL_law_1506 dL_law_1508 dL_law_1509 dL_law_1510 rfl rfl ?_
  refine v_aload_n C dL_law_1511 rfl ?_
  rcases hop with ⟨v, g1, g2, g3, g4⟩ | ⟨gx, v, g2, g3⟩
  · refine v_wcall (k := 3) C dL_law_1512 mwL_222 (w_usedSymbols w l _ _ _ _ v g1) rfl ⟨by decide, by decide⟩ hcs ⟨rfl, Nat.le_of_ble_eq_true rfl⟩ (fun r1 h9 q => ?_)
    rw [q.1, q.2]
    refine v_istore C dL_law_1515 (by decide) ?_
    refine v_aload_n C dL_law_1517 rfl ?_
    refine v_sarg (k := 1) C S hi (by decide) rfl dL_law_1518 dL_law_1519 dL_law_1521 dL_law_1522 dL_law_1523 rfl rfl ?_
    refine v_callV (k := 1) C dL_law_1524 mvL_224 (cq_X8_usedSymbols w l _ _ _ v h2 g2) rfl ⟨by decide, by decide⟩ hcs ⟨rfl, Nat.le_of_ble_eq_true rfl⟩ (fun r2 h9 q => ?_)
    rw [q.1, q.2]
    refine v_istore C dL_law_1527 (by decide) ?_
    refine v_aload_n C dL_law_1529 rfl ?_
    refine v_callV (k := 0) C dL_law_1530 mvL_162 (cq_X8_thrown w l _ _ 0 g3) rfl ⟨by decide, by decide⟩ hcs ⟨rfl, Nat.le_of_ble_eq_true rfl⟩ (fun r3 h9 q => ?_)
    rw [q.1, q.2]
    refine v_iload C dL_law_1533 rfl ?_
    refine v_icmp_eq C dL_law_1535 (tgt := 1540) (by decide) (fun _ => ?_) (fun z => absurd rfl z)
    refine v_iload C dL_law_1540 rfl ?_
    refine v_if_ne C dL_law_1542 (tgt := 1557) (by decide) (fun z => absurd rfl z) (fun _ => ?_)
    refine v_aload_n C dL_law_1545 rfl ?_
    refine v_iconst C dL_law_1546 rfl ?_
    exact v_cmpO C (tgt := 1557) g4 dL_law_1547 dL_law_1548 dL_law_1550 dL_law_1551 dL_law_1552 (by decide) rfl (v_goto C dL_law_1557 (tgt := 2686) (by decide) (v_loc (fun k9 v9 h9 => zloc_ok56 h9) kk))
  · refine v_wcall (k := 3) C dL_law_1512 mwL_222 (wx_usedSymbols w l _ _ _ _ (x_X7_usedSymbols w l hl0 _ _ _ gx)) rfl ⟨by decide, by decide⟩ hcs ⟨rfl, Nat.le_of_ble_eq_true rfl⟩ (fun r1 h9 q => ?_)
    rw [q.1, q.2]
    refine v_istore C dL_law_1515 (by decide) ?_
    refine v_aload_n C dL_law_1517 rfl ?_
    refine v_sarg (k := 1) C S hi (by decide) rfl dL_law_1518 dL_law_1519 dL_law_1521 dL_law_1522 dL_law_1523 rfl rfl ?_
    refine v_callV (k := 1) C dL_law_1524 mvL_224 (cq_X8_usedSymbols w l _ _ _ v h2 g2) rfl ⟨by decide, by decide⟩ hcs ⟨rfl, Nat.le_of_ble_eq_true rfl⟩ (fun r2 h9 q => ?_)
    rw [q.1, q.2]
    refine v_istore C dL_law_1527 (by decide) ?_
    refine v_aload_n C dL_law_1529 rfl ?_
    refine v_callV (k := 0) C dL_law_1530 mvL_162 (cq_X8_thrown w l _ _ 1 g3) rfl ⟨by decide, by decide⟩ hcs ⟨rfl, Nat.le_of_ble_eq_true rfl⟩ (fun r3 h9 q => ?_)
    rw [q.1, q.2]
    refine v_iload C dL_law_1533 rfl ?_
    refine v_icmp_eq C dL_law_1535 (tgt := 1540) (by decide) (fun _ => ?_) (fun z => absurd rfl z)
    refine v_iload C dL_law_1540 rfl ?_
    exact v_if_ne C dL_law_1542 (tgt := 1557) (by decide) (fun _ => v_goto C dL_law_1557 (tgt := 2686) (by decide) (v_loc (fun k9 v9 h9 => zloc_ok56 h9) kk)) (fun z => absurd z (by decide))
theorem lc_30 (C : zC w p s m args c 7 cL_law RL) (hl0 : l.stackTraces = false) (S : zScr w s xs b L) (hi : i + 6 ≤ L) (hcs : cells + 1 ≤ 601024 ∧ slots + 6 ≤ 7293033) (hop : zO_30 h X M O (sx xs (i + 1)) (sx xs (i + 2)) h2)
    (kk : zV w p l e room_1 s m args below meth c 7 (cells + 1) (slots + 6) Q 2686 (zloc b X M O i) [] h2) : zV w p l e room_1 s m args below meth c 7 cells slots Q 1560 (zloc b X M O i) [] h := by
  refine v_aload_n C dL_law_1560 rfl ?_
  refine v_sarg (k := 1) C S hi (by decide) rfl dL_law_1561 dL_law_1562 dL_law_1564 dL_law_1565 dL_law_1566 rfl rfl ?_
  refine v_sarg (k := 2) C S hi (by decide) rfl dL_law_1567 dL_law_1568 dL_law_1570 dL_law_1571 dL_law_1572 rfl rfl ?_
  refine v_aload_n C dL_law_1573 rfl ?_
  rcases hop with ⟨v, g1, g2, g3, g4⟩ | ⟨gx, v, g2, g3⟩
  · refine v_wcall (k := 4) C dL_law_1574 mwL_225 (w_callAt w l _ _ _ _ _ v g1) rfl ⟨by decide, by decide⟩ hcs ⟨rfl, Nat.le_of_ble_eq_true rfl⟩ (fun r1 h9 q => ?_)
    rw [q.1, q.2]
    refine v_istore C dL_law_1577 (by decide) ?_
    refine v_aload_n C dL_law_1579 rfl ?_
    refine v_sarg (k := 1) C S hi (by decide) rfl dL_law_1580 dL_law_1581 dL_law_1583 dL_law_1584 dL_law_1585 rfl rfl ?_
    refine v_sarg (k := 2) C S hi (by decide) rfl dL_law_1586 dL_law_1587 dL_law_1589 dL_law_1590 dL_law_1591 rfl rfl ?_
    refine v_callV (k := 2) C dL_law_1592 mvL_227 (cq_X8_callAt w l _ _ _ _ v h2 g2) rfl ⟨by decide, by decide⟩ hcs ⟨rfl, Nat.le_of_ble_eq_true rfl⟩ (fun r2 h9 q => ?_)
    rw [q.1, q.2]
    refine v_istore C dL_law_1595 (by decide) ?_
    refine v_aload_n C dL_law_1597 rfl ?_
    refine v_callV (k := 0) C dL_law_1598 mvL_162 (cq_X8_thrown w l _ _ 0 g3) rfl ⟨by decide, by decide⟩ hcs ⟨rfl, Nat.le_of_ble_eq_true rfl⟩ (fun r3 h9 q => ?_)
    rw [q.1, q.2]
    refine v_iload C dL_law_1601 rfl ?_
    refine v_icmp_eq C dL_law_1603 (tgt := 1608) (by decide) (fun _ => ?_) (fun z => absurd rfl z)
    refine v_iload C dL_law_1608 rfl ?_
    refine v_if_ne C dL_law_1610 (tgt := 1625) (by decide) (fun z => absurd rfl z) (fun _ => ?_)
    refine v_aload_n C dL_law_1613 rfl ?_
    refine v_iconst C dL_law_1614 rfl ?_
    exact v_cmpO C (tgt := 1625) g4 dL_law_1615 dL_law_1616 dL_law_1618 dL_law_1619 dL_law_1620 (by decide) rfl (v_goto C dL_law_1625 (tgt := 2686) (by decide) (v_loc (fun k9 v9 h9 => zloc_ok56 h9) kk))
  · refine v_wcall (k := 4) C dL_law_1574 mwL_225 (wx_callAt w l _ _ _ _ _ (x_X7_callAt w l hl0 _ _ _ _ gx)) rfl ⟨by decide, by decide⟩ hcs ⟨rfl, Nat.le_of_ble_eq_true rfl⟩ (fun r1 h9 q => ?_)
    rw [q.1, q.2]
    refine v_istore C dL_law_1577 (by decide) ?_
    refine v_aload_n C dL_law_1579 rfl ?_
    refine v_sarg (k := 1) C S hi (by decide) rfl dL_law_1580 dL_law_1581 dL_law_1583 dL_law_1584 dL_law_1585 rfl rfl ?_
    refine v_sarg (k := 2) C S hi (by decide) rfl dL_law_1586 dL_law_1587 dL_law_1589 dL_law_1590 dL_law_1591 rfl rfl ?_
    refine v_callV (k := 2) C dL_law_1592 mvL_227 (cq_X8_callAt w l _ _ _ _ v h2 g2) rfl ⟨by decide, by decide⟩ hcs ⟨rfl, Nat.le_of_ble_eq_true rfl⟩ (fun r2 h9 q => ?_)
    rw [q.1, q.2]
    refine v_istore C dL_law_1595 (by decide) ?_
    refine v_aload_n C dL_law_1597 rfl ?_
    refine v_callV (k := 0) C dL_law_1598 mvL_162 (cq_X8_thrown w l _ _ 1 g3) rfl ⟨by decide, by decide⟩ hcs ⟨rfl, Nat.le_of_ble_eq_true rfl⟩ (fun r3 h9 q => ?_)
    rw [q.1, q.2]
    refine v_iload C dL_law_1601 rfl ?_
    refine v_icmp_eq C dL_law_1603 (tgt := 1608) (by decide) (fun _ => ?_) (fun z => absurd rfl z)
    refine v_iload C dL_law_1608 rfl ?_
    exact v_if_ne C dL_law_1610 (tgt := 1625) (by decide) (fun _ => v_goto C dL_law_1625 (tgt := 2686) (by decide) (v_loc (fun k9 v9 h9 => zloc_ok56 h9) kk)) (fun z => absurd z (by decide))
theorem lc_31 (C : zC w p s m args c 7 cL_law RL) (hl0 : l.stackTraces = false) (S : zScr w s xs b L) (hi : i + 6 ≤ L) (hcs : cells + 1 ≤ 601024 ∧ slots + 6 ≤ 7293033) (hop : zO_31 h X M O (sx xs (i + 1)) h2)
    (kk : zV w p l e room_1 s m args below meth c 7 (cells + 1) (slots + 6) Q 2686 (zloc b X M O i) [] h2) : zV w p l e room_1 s m args below meth c 7 cells slots Q 1628 (zloc b X M O i) [] h := by
  refine v_aload_n C dL_law_1628 rfl ?_
  refine v_sarg (k := 1) C S hi (by decide) rfl dL_law_1629 dL_law_1630 dL_law_1632 dL_law_1633 dL_law_1634 rfl rfl ?_
  refine v_aload_n C dL_law_1635 rfl ?_
  rcases hop with ⟨v, g1, g2, g3, g4⟩ | ⟨gx, v, g2, g3⟩
  · refine v_wcall (k := 3) C dL_law_1636 mwL_228 (w_longestFit w l _ _ _ _ v g1) rfl ⟨by decide, by decide⟩ hcs ⟨rfl, Nat.le_of_ble_eq_true rfl⟩ (fun r1 h9 q => ?_)
    rw [q.1, q.2]
    refine v_istore C dL_law_1639 (by decide) ?_
    refine v_aload_n C dL_law_1641 rfl ?_
    refine v_sarg (k := 1) C S hi (by decide) rfl dL_law_1642 dL_law_1643 dL_law_1645 dL_law_1646 dL_law_1647 rfl rfl ?_
    refine v_callV (k := 1) C dL_law_1648 mvL_230 (cq_X8_longestFit w l _ _ _ v h2 g2) rfl ⟨by decide, by decide⟩ hcs ⟨rfl, Nat.le_of_ble_eq_true rfl⟩ (fun r2 h9 q => ?_)
    rw [q.1, q.2]
    refine v_istore C dL_law_1651 (by decide) ?_
    refine v_aload_n C dL_law_1653 rfl ?_
    refine v_callV (k := 0) C dL_law_1654 mvL_162 (cq_X8_thrown w l _ _ 0 g3) rfl ⟨by decide, by decide⟩ hcs ⟨rfl, Nat.le_of_ble_eq_true rfl⟩ (fun r3 h9 q => ?_)
    rw [q.1, q.2]
    refine v_iload C dL_law_1657 rfl ?_
    refine v_icmp_eq C dL_law_1659 (tgt := 1664) (by decide) (fun _ => ?_) (fun z => absurd rfl z)
    refine v_iload C dL_law_1664 rfl ?_
    refine v_if_ne C dL_law_1666 (tgt := 1681) (by decide) (fun z => absurd rfl z) (fun _ => ?_)
    refine v_aload_n C dL_law_1669 rfl ?_
    refine v_iconst C dL_law_1670 rfl ?_
    exact v_cmpO C (tgt := 1681) g4 dL_law_1671 dL_law_1672 dL_law_1674 dL_law_1675 dL_law_1676 (by decide) rfl (v_goto C dL_law_1681 (tgt := 2686) (by decide) (v_loc (fun k9 v9 h9 => zloc_ok56 h9) kk))
  · refine v_wcall (k := 3) C dL_law_1636 mwL_228 (wx_longestFit w l _ _ _ _ (x_X7_longestFit w l hl0 _ _ _ gx)) rfl ⟨by decide, by decide⟩ hcs ⟨rfl, Nat.le_of_ble_eq_true rfl⟩ (fun r1 h9 q => ?_)
    rw [q.1, q.2]
    refine v_istore C dL_law_1639 (by decide) ?_
    refine v_aload_n C dL_law_1641 rfl ?_
    refine v_sarg (k := 1) C S hi (by decide) rfl dL_law_1642 dL_law_1643 dL_law_1645 dL_law_1646 dL_law_1647 rfl rfl ?_
    refine v_callV (k := 1) C dL_law_1648 mvL_230 (cq_X8_longestFit w l _ _ _ v h2 g2) rfl ⟨by decide, by decide⟩ hcs ⟨rfl, Nat.le_of_ble_eq_true rfl⟩ (fun r2 h9 q => ?_)
    rw [q.1, q.2]
    refine v_istore C dL_law_1651 (by decide) ?_
    refine v_aload_n C dL_law_1653 rfl ?_
    refine v_callV (k := 0) C dL_law_1654 mvL_162 (cq_X8_thrown w l _ _ 1 g3) rfl ⟨by decide, by decide⟩ hcs ⟨rfl, Nat.le_of_ble_eq_true rfl⟩ (fun r3 h9 q => ?_)
    rw [q.1, q.2]
    refine v_iload C dL_law_1657 rfl ?_
    refine v_icmp_eq C dL_law_1659 (tgt := 1664) (by decide) (fun _ => ?_) (fun z => absurd rfl z)
    refine v_iload C dL_law_1664 rfl ?_
    exact v_if_ne C dL_law_1666 (tgt := 1681) (by decide) (fun _ => v_goto C dL_law_1681 (tgt := 2686) (by decide) (v_loc (fun k9 v9 h9 => zloc_ok56 h9) kk)) (fun z => absurd z (by decide))
theorem lc_32 (C : zC w p s m args c 7 cL_law RL) (S : zScr w s xs b L) (hi : i + 6 ≤ L) (hcs : cells + 1 ≤ 601024 ∧ slots + 6 ≤ 7293033) (hop : zO_32 h X M  h2)
    (kk : zV w p l e room_1 s m args below meth c 7 (cells + 1) (slots + 6) Q 2686 (zloc b X M O i) [] h2) : zV w p l e room_1 s m args below meth c 7 cells slots Q 1684 (zloc b X M O i) [] h := by
  obtain ⟨v, g1, g2⟩ := hop
  refine v_more (Nat.le_succ _) (Nat.le_add_right _ 6) ?_
  refine v_aload_n C dL_law_1684 rfl ?_
  refine v_callV (k := 0) C dL_law_1685 mvL_231 (cq_X7_nextEnd w l _ _ v g1) rfl ⟨by decide, by decide⟩ hcs ⟨rfl, Nat.le_of_ble_eq_true rfl⟩ (fun r1 h9 q => ?_)
  rw [q.1, q.2]
  refine v_aload_n C dL_law_1688 rfl ?_
  refine v_callV (k := 0) C dL_law_1689 mvL_234 (cq_X8_nextEnd w l _ _ v h2 g2) rfl ⟨by decide, by decide⟩ hcs ⟨rfl, Nat.le_of_ble_eq_true rfl⟩ (fun r2 h9 q => ?_)
  rw [q.1, q.2]
  exact v_icmp_eq C dL_law_1692 (tgt := 2686) (by decide) (fun _ => kk) (fun z => absurd rfl z)
theorem lc_33 (C : zC w p s m args c 7 cL_law RL) (hl0 : l.stackTraces = false) (S : zScr w s xs b L) (hi : i + 6 ≤ L) (hcs : cells + 1 ≤ 601024 ∧ slots + 6 ≤ 7293033) (hop : zO_33 h X M O (sx xs (i + 1)) (sx xs (i + 2)) h2)
    (kk : zV w p l e room_1 s m args below meth c 7 (cells + 1) (slots + 6) Q 2686 (zloc b X M O i) [] h2) : zV w p l e room_1 s m args below meth c 7 cells slots Q 1697 (zloc b X M O i) [] h := by
  refine v_aload_n C dL_law_1697 rfl ?_
  refine v_sarg (k := 1) C S hi (by decide) rfl dL_law_1698 dL_law_1699 dL_law_1701 dL_law_1702 dL_law_1703 rfl rfl ?_
  refine v_sarg (k := 2) C S hi (by decide) rfl dL_law_1704 dL_law_1705 dL_law_1707 dL_law_1708 dL_law_1709 rfl rfl ?_
  refine v_aload_n C dL_law_1710 rfl ?_
  rcases hop with ⟨v, g1, g2, g3, g4⟩ | ⟨gx, v, g2, g3⟩
  · refine v_wcall (k := 4) C dL_law_1711 mwL_235 (w_fitsWithout w l _ _ _ _ _ v g1) rfl ⟨by decide, by decide⟩ hcs ⟨rfl, Nat.le_of_ble_eq_true rfl⟩ (fun r1 h9 q => ?_)
    rw [q.1, q.2]
    refine v_istore C dL_law_1714 (by decide) ?_
    refine v_aload_n C dL_law_1716 rfl ?_
    refine v_sarg (k := 1) C S hi (by decide) rfl dL_law_1717 dL_law_1718 dL_law_1720 dL_law_1721 dL_law_1722 rfl rfl ?_
    refine v_sarg (k := 2) C S hi (by decide) rfl dL_law_1723 dL_law_1724 dL_law_1726 dL_law_1727 dL_law_1728 rfl rfl ?_
    refine v_callV (k := 2) C dL_law_1729 mvL_237 (cq_X8_fitsWithout w l _ _ _ _ v h2 g2) rfl ⟨by decide, by decide⟩ hcs ⟨rfl, Nat.le_of_ble_eq_true rfl⟩ (fun r2 h9 q => ?_)
    rw [q.1, q.2]
    refine v_istore C dL_law_1732 (by decide) ?_
    refine v_aload_n C dL_law_1734 rfl ?_
    refine v_callV (k := 0) C dL_law_1735 mvL_162 (cq_X8_thrown w l _ _ 0 g3) rfl ⟨by decide, by decide⟩ hcs ⟨rfl, Nat.le_of_ble_eq_true rfl⟩ (fun r3 h9 q => ?_)
    rw [q.1, q.2]
    refine v_iload C dL_law_1738 rfl ?_
    refine v_icmp_eq C dL_law_1740 (tgt := 1745) (by decide) (fun _ => ?_) (fun z => absurd rfl z)
    refine v_iload C dL_law_1745 rfl ?_
    refine v_if_ne C dL_law_1747 (tgt := 1769) (by decide) (fun z => absurd rfl z) (fun _ => ?_)
    refine v_aload_n C dL_law_1750 rfl ?_
    refine v_iconst C dL_law_1751 rfl ?_
    exact v_cmpB C (tgt := 1769) (t0 := 1762) (t1 := 1763) g4 dL_law_1752 dL_law_1753 dL_law_1755 (by decide) dL_law_1758 dL_law_1759 (by decide) dL_law_1762 rfl dL_law_1763 dL_law_1764 (by decide) rfl (v_goto C dL_law_1769 (tgt := 2686) (by decide) (v_loc (fun k9 v9 h9 => zloc_ok56 h9) kk))
  · refine v_wcall (k := 4) C dL_law_1711 mwL_235 (wx_fitsWithout w l _ _ _ _ _ (x_X7_fitsWithout w l hl0 _ _ _ _ gx)) rfl ⟨by decide, by decide⟩ hcs ⟨rfl, Nat.le_of_ble_eq_true rfl⟩ (fun r1 h9 q => ?_)
    rw [q.1, q.2]
    refine v_istore C dL_law_1714 (by decide) ?_
    refine v_aload_n C dL_law_1716 rfl ?_
    refine v_sarg (k := 1) C S hi (by decide) rfl dL_law_1717 dL_law_1718 dL_law_1720 dL_law_1721 dL_law_1722 rfl rfl ?_
    refine v_sarg (k := 2) C S hi (by decide) rfl dL_law_1723 dL_law_1724 dL_law_1726 dL_law_1727 dL_law_1728 rfl rfl ?_
    refine v_callV (k := 2) C dL_law_1729 mvL_237 (cq_X8_fitsWithout w l _ _ _ _ v h2 g2) rfl ⟨by decide, by decide⟩ hcs ⟨rfl, Nat.le_of_ble_eq_true rfl⟩ (fun r2 h9 q => ?_)
    rw [q.1, q.2]
    refine v_istore C dL_law_1732 (by decide) ?_
    refine v_aload_n C dL_law_1734 rfl ?_
    refine v_callV (k := 0) C dL_law_1735 mvL_162 (cq_X8_thrown w l _ _ 1 g3) rfl ⟨by decide, by decide⟩ hcs ⟨rfl, Nat.le_of_ble_eq_true rfl⟩ (fun r3 h9 q => ?_)
    rw [q.1, q.2]
    refine v_iload C dL_law_1738 rfl ?_
    refine v_icmp_eq C dL_law_1740 (tgt := 1745) (by decide) (fun _ => ?_) (fun z => absurd rfl z)
    refine v_iload C dL_law_1745 rfl ?_
    exact v_if_ne C dL_law_1747 (tgt := 1769) (by decide) (fun _ => v_goto C dL_law_1769 (tgt := 2686) (by decide) (v_loc (fun k9 v9 h9 => zloc_ok56 h9) kk)) (fun z => absurd z (by decide))
theorem lc_34 (C : zC w p s m args c 7 cL_law RL) (hl0 : l.stackTraces = false) (S : zScr w s xs b L) (hi : i + 6 ≤ L) (hcs : cells + 1 ≤ 601024 ∧ slots + 6 ≤ 7293033) (hop : zO_34 h X M O (sx xs (i + 1)) h2)
    (kk : zV w p l e room_1 s m args below meth c 7 (cells + 1) (slots + 6) Q 2686 (zloc b X M O i) [] h2) : zV w p l e room_1 s m args below meth c 7 cells slots Q 1772 (zloc b X M O i) [] h := by
  refine v_aload_n C dL_law_1772 rfl ?_
  refine v_sarg (k := 1) C S hi (by decide) rfl dL_law_1773 dL_law_1774 dL_law_1776 dL_law_1777 dL_law_1778 rfl rfl ?_
  refine v_aload_n C dL_law_1779 rfl ?_
  rcases hop with ⟨v, g1, g2, g3, g4⟩ | ⟨gx, v, g2, g3⟩
  · refine v_wcall (k := 3) C dL_law_1780 mwL_238 (w_callsToDrop w l _ _ _ _ v g1) rfl ⟨by decide, by decide⟩ hcs ⟨rfl, Nat.le_of_ble_eq_true rfl⟩ (fun r1 h9 q => ?_)
    rw [q.1, q.2]
    refine v_istore C dL_law_1783 (by decide) ?_
    refine v_aload_n C dL_law_1785 rfl ?_
    refine v_sarg (k := 1) C S hi (by decide) rfl dL_law_1786 dL_law_1787 dL_law_1789 dL_law_1790 dL_law_1791 rfl rfl ?_
    refine v_callV (k := 1) C dL_law_1792 mvL_240 (cq_X8_callsToDrop w l _ _ _ v h2 g2) rfl ⟨by decide, by decide⟩ hcs ⟨rfl, Nat.le_of_ble_eq_true rfl⟩ (fun r2 h9 q => ?_)
    rw [q.1, q.2]
    refine v_istore C dL_law_1795 (by decide) ?_
    refine v_aload_n C dL_law_1797 rfl ?_
    refine v_callV (k := 0) C dL_law_1798 mvL_162 (cq_X8_thrown w l _ _ 0 g3) rfl ⟨by decide, by decide⟩ hcs ⟨rfl, Nat.le_of_ble_eq_true rfl⟩ (fun r3 h9 q => ?_)
    rw [q.1, q.2]
    refine v_iload C dL_law_1801 rfl ?_
    refine v_icmp_eq C dL_law_1803 (tgt := 1808) (by decide) (fun _ => ?_) (fun z => absurd rfl z)
    refine v_iload C dL_law_1808 rfl ?_
    refine v_if_ne C dL_law_1810 (tgt := 1825) (by decide) (fun z => absurd rfl z) (fun _ => ?_)
    refine v_aload_n C dL_law_1813 rfl ?_
    refine v_iconst C dL_law_1814 rfl ?_
    exact v_cmpO C (tgt := 1825) g4 dL_law_1815 dL_law_1816 dL_law_1818 dL_law_1819 dL_law_1820 (by decide) rfl (v_goto C dL_law_1825 (tgt := 2686) (by decide) (v_loc (fun k9 v9 h9 => zloc_ok56 h9) kk))
  · refine v_wcall (k := 3) C dL_law_1780 mwL_238 (wx_callsToDrop w l _ _ _ _ (x_X7_callsToDrop w l hl0 _ _ _ gx)) rfl ⟨by decide, by decide⟩ hcs ⟨rfl, Nat.le_of_ble_eq_true rfl⟩ (fun r1 h9 q => ?_)
    rw [q.1, q.2]
    refine v_istore C dL_law_1783 (by decide) ?_
    refine v_aload_n C dL_law_1785 rfl ?_
    refine v_sarg (k := 1) C S hi (by decide) rfl dL_law_1786 dL_law_1787 dL_law_1789 dL_law_1790 dL_law_1791 rfl rfl ?_
    refine v_callV (k := 1) C dL_law_1792 mvL_240 (cq_X8_callsToDrop w l _ _ _ v h2 g2) rfl ⟨by decide, by decide⟩ hcs ⟨rfl, Nat.le_of_ble_eq_true rfl⟩ (fun r2 h9 q => ?_)
    rw [q.1, q.2]
    refine v_istore C dL_law_1795 (by decide) ?_
    refine v_aload_n C dL_law_1797 rfl ?_
    refine v_callV (k := 0) C dL_law_1798 mvL_162 (cq_X8_thrown w l _ _ 1 g3) rfl ⟨by decide, by decide⟩ hcs ⟨rfl, Nat.le_of_ble_eq_true rfl⟩ (fun r3 h9 q => ?_)
    rw [q.1, q.2]
    refine v_iload C dL_law_1801 rfl ?_
    refine v_icmp_eq C dL_law_1803 (tgt := 1808) (by decide) (fun _ => ?_) (fun z => absurd rfl z)
    refine v_iload C dL_law_1808 rfl ?_
    exact v_if_ne C dL_law_1810 (tgt := 1825) (by decide) (fun _ => v_goto C dL_law_1825 (tgt := 2686) (by decide) (v_loc (fun k9 v9 h9 => zloc_ok56 h9) kk)) (fun z => absurd z (by decide))
theorem lc_35 (C : zC w p s m args c 7 cL_law RL) (S : zScr w s xs b L) (hi : i + 6 ≤ L) (hcs : cells + 1 ≤ 601024 ∧ slots + 6 ≤ 7293033) (hop : zO_35 h X M  h2)
    (kk : zV w p l e room_1 s m args below meth c 7 (cells + 1) (slots + 6) Q 2686 (zloc b X M O i) [] h2) : zV w p l e room_1 s m args below meth c 7 cells slots Q 1828 (zloc b X M O i) [] h := by
  obtain ⟨v, h1, g1, g2⟩ := hop
  refine v_more (Nat.le_succ _) (Nat.le_add_right _ 6) ?_
  refine v_aload_n C dL_law_1828 rfl ?_
  refine v_callV (k := 0) C dL_law_1829 mvL_241 (cq_X7_carriersNeeded w l _ _ v h1 g1) rfl ⟨by decide, by decide⟩ hcs ⟨rfl, Nat.le_of_ble_eq_true rfl⟩ (fun r1 h9 q => ?_)
  rw [q.1, q.2]
  refine v_aload_n C dL_law_1832 rfl ?_
  refine v_callV (k := 0) C dL_law_1833 mvL_244 (cq_X8_carriersNeeded w l _ _ v h2 g2) rfl ⟨by decide, by decide⟩ hcs ⟨rfl, Nat.le_of_ble_eq_true rfl⟩ (fun r2 h9 q => ?_)
  rw [q.1, q.2]
  exact v_icmp_eq C dL_law_1836 (tgt := 2686) (by decide) (fun _ => kk) (fun z => absurd rfl z)
theorem lc_36 (C : zC w p s m args c 7 cL_law RL) (hl0 : l.stackTraces = false) (S : zScr w s xs b L) (hi : i + 6 ≤ L) (hcs : cells + 1 ≤ 601024 ∧ slots + 6 ≤ 7293033) (hop : zO_36 h X M O (sx xs (i + 1)) h2)
    (kk : zV w p l e room_1 s m args below meth c 7 (cells + 1) (slots + 6) Q 2686 (zloc b X M O i) [] h2) : zV w p l e room_1 s m args below meth c 7 cells slots Q 1841 (zloc b X M O i) [] h := by
  refine v_aload_n C dL_law_1841 rfl ?_
  refine v_sarg (k := 1) C S hi (by decide) rfl dL_law_1842 dL_law_1843 dL_law_1845 dL_law_1846 dL_law_1847 rfl rfl ?_
  refine v_aload_n C dL_law_1848 rfl ?_
  rcases hop with ⟨v, g1, g2, g3, g4⟩ | ⟨gx, v, g2, g3⟩
  · refine v_wcall (k := 3) C dL_law_1849 mwL_245 (w_clearFrame w l _ _ _ _ v g1) rfl ⟨by decide, by decide⟩ hcs ⟨rfl, Nat.le_of_ble_eq_true rfl⟩ (fun r1 h9 q => ?_)
    rw [q.1, q.2]
    refine v_istore C dL_law_1852 (by decide) ?_
    refine v_aload_n C dL_law_1854 rfl ?_
    refine v_sarg (k := 1) C S hi (by decide) rfl dL_law_1855 dL_law_1856 dL_law_1858 dL_law_1859 dL_law_1860 rfl rfl ?_
    refine v_callV (k := 1) C dL_law_1861 mvL_247 (cq_X8_clearFrame w l _ _ _ v h2 g2) rfl ⟨by decide, by decide⟩ hcs ⟨rfl, Nat.le_of_ble_eq_true rfl⟩ (fun r2 h9 q => ?_)
    rw [q.1, q.2]
    refine v_istore C dL_law_1864 (by decide) ?_
    refine v_aload_n C dL_law_1866 rfl ?_
    refine v_callV (k := 0) C dL_law_1867 mvL_162 (cq_X8_thrown w l _ _ 0 g3) rfl ⟨by decide, by decide⟩ hcs ⟨rfl, Nat.le_of_ble_eq_true rfl⟩ (fun r3 h9 q => ?_)
    rw [q.1, q.2]
    refine v_iload C dL_law_1870 rfl ?_
    refine v_icmp_eq C dL_law_1872 (tgt := 1877) (by decide) (fun _ => ?_) (fun z => absurd rfl z)
    refine v_iload C dL_law_1877 rfl ?_
    refine v_if_ne C dL_law_1879 (tgt := 1894) (by decide) (fun z => absurd rfl z) (fun _ => ?_)
    refine v_aload_n C dL_law_1882 rfl ?_
    refine v_iconst C dL_law_1883 rfl ?_
    exact v_cmpO C (tgt := 1894) g4 dL_law_1884 dL_law_1885 dL_law_1887 dL_law_1888 dL_law_1889 (by decide) rfl (v_goto C dL_law_1894 (tgt := 2686) (by decide) (v_loc (fun k9 v9 h9 => zloc_ok56 h9) kk))
  · refine v_wcall (k := 3) C dL_law_1849 mwL_245 (wx_clearFrame w l _ _ _ _ (x_X7_clearFrame w l hl0 _ _ _ gx)) rfl ⟨by decide, by decide⟩ hcs ⟨rfl, Nat.le_of_ble_eq_true rfl⟩ (fun r1 h9 q => ?_)
    rw [q.1, q.2]
    refine v_istore C dL_law_1852 (by decide) ?_
    refine v_aload_n C dL_law_1854 rfl ?_
    refine v_sarg (k := 1) C S hi (by decide) rfl dL_law_1855 dL_law_1856 dL_law_1858 dL_law_1859 dL_law_1860 rfl rfl ?_
    refine v_callV (k := 1) C dL_law_1861 mvL_247 (cq_X8_clearFrame w l _ _ _ v h2 g2) rfl ⟨by decide, by decide⟩ hcs ⟨rfl, Nat.le_of_ble_eq_true rfl⟩ (fun r2 h9 q => ?_)
    rw [q.1, q.2]
    refine v_istore C dL_law_1864 (by decide) ?_
    refine v_aload_n C dL_law_1866 rfl ?_
    refine v_callV (k := 0) C dL_law_1867 mvL_162 (cq_X8_thrown w l _ _ 1 g3) rfl ⟨by decide, by decide⟩ hcs ⟨rfl, Nat.le_of_ble_eq_true rfl⟩ (fun r3 h9 q => ?_)
    rw [q.1, q.2]
    refine v_iload C dL_law_1870 rfl ?_
    refine v_icmp_eq C dL_law_1872 (tgt := 1877) (by decide) (fun _ => ?_) (fun z => absurd rfl z)
    refine v_iload C dL_law_1877 rfl ?_
    exact v_if_ne C dL_law_1879 (tgt := 1894) (by decide) (fun _ => v_goto C dL_law_1894 (tgt := 2686) (by decide) (v_loc (fun k9 v9 h9 => zloc_ok56 h9) kk)) (fun z => absurd z (by decide))
theorem lc_37 (C : zC w p s m args c 7 cL_law RL) (S : zScr w s xs b L) (hi : i + 6 ≤ L) (hcs : cells + 1 ≤ 601024 ∧ slots + 6 ≤ 7293033) (hop : zO_37 h X M (sx xs (i + 1)) (sx xs (i + 2)) (sx xs (i + 3)) (sx xs (i + 4)) (sx xs (i + 5)) h2)
    (kk : zV w p l e room_1 s m args below meth c 7 (cells + 1) (slots + 6) Q 2686 (zloc b X M O i) [] h2) : zV w p l e room_1 s m args below meth c 7 cells slots Q 1897 (zloc b X M O i) [] h := by
  obtain ⟨v, h1, g1, g2⟩ := hop
  refine v_more (Nat.le_succ _) (Nat.le_add_right _ 6) ?_
  refine v_aload_n C dL_law_1897 rfl ?_
  refine v_sarg (k := 1) C S hi (by decide) rfl dL_law_1898 dL_law_1899 dL_law_1901 dL_law_1902 dL_law_1903 rfl rfl ?_
  refine v_sarg (k := 2) C S hi (by decide) rfl dL_law_1904 dL_law_1905 dL_law_1907 dL_law_1908 dL_law_1909 rfl rfl ?_
  refine v_sarg (k := 3) C S hi (by decide) rfl dL_law_1910 dL_law_1911 dL_law_1913 dL_law_1914 dL_law_1915 rfl rfl ?_
  refine v_sarg (k := 4) C S hi (by decide) rfl dL_law_1916 dL_law_1917 dL_law_1919 dL_law_1920 dL_law_1921 rfl rfl ?_
  refine v_sarg (k := 5) C S hi (by decide) rfl dL_law_1922 dL_law_1923 dL_law_1925 dL_law_1926 dL_law_1927 rfl rfl ?_
  refine v_callV (k := 5) C dL_law_1928 mvL_248 (cq_X7_request w l _ _ _ _ _ _ _ v h1 g1) rfl ⟨by decide, by decide⟩ hcs ⟨rfl, Nat.le_of_ble_eq_true rfl⟩ (fun r1 h9 q => ?_)
  rw [q.1, q.2]
  refine v_aload_n C dL_law_1931 rfl ?_
  refine v_sarg (k := 1) C S hi (by decide) rfl dL_law_1932 dL_law_1933 dL_law_1935 dL_law_1936 dL_law_1937 rfl rfl ?_
  refine v_sarg (k := 2) C S hi (by decide) rfl dL_law_1938 dL_law_1939 dL_law_1941 dL_law_1942 dL_law_1943 rfl rfl ?_
  refine v_sarg (k := 3) C S hi (by decide) rfl dL_law_1944 dL_law_1945 dL_law_1947 dL_law_1948 dL_law_1949 rfl rfl ?_
  refine v_sarg (k := 4) C S hi (by decide) rfl dL_law_1950 dL_law_1951 dL_law_1953 dL_law_1954 dL_law_1955 rfl rfl ?_
  refine v_sarg (k := 5) C S hi (by decide) rfl dL_law_1956 dL_law_1957 dL_law_1959 dL_law_1960 dL_law_1961 rfl rfl ?_
  refine v_callV (k := 5) C dL_law_1962 mvL_251 (cq_X8_request w l _ _ _ _ _ _ _ v h2 g2) rfl ⟨by decide, by decide⟩ hcs ⟨rfl, Nat.le_of_ble_eq_true rfl⟩ (fun r2 h9 q => ?_)
  rw [q.1, q.2]
  exact v_icmp_eq C dL_law_1965 (tgt := 2686) (by decide) (fun _ => kk) (fun z => absurd rfl z)
theorem lc_38 (C : zC w p s m args c 7 cL_law RL) (S : zScr w s xs b L) (hi : i + 6 ≤ L) (hcs : cells + 1 ≤ 601024 ∧ slots + 6 ≤ 7293033) (hop : zO_38 h X M (sx xs (i + 1)) h2)
    (kk : zV w p l e room_1 s m args below meth c 7 (cells + 1) (slots + 6) Q 2686 (zloc b X M O i) [] h2) : zV w p l e room_1 s m args below meth c 7 cells slots Q 1970 (zloc b X M O i) [] h := by
  obtain ⟨v, h1, g1, g2⟩ := hop
  refine v_more (Nat.le_succ _) (Nat.le_add_right _ 6) ?_
  refine v_aload_n C dL_law_1970 rfl ?_
  refine v_sarg (k := 1) C S hi (by decide) rfl dL_law_1971 dL_law_1972 dL_law_1974 dL_law_1975 dL_law_1976 rfl rfl ?_
  refine v_callV (k := 1) C dL_law_1977 mvL_252 (cq_X7_release w l _ _ _ v h1 g1) rfl ⟨by decide, by decide⟩ hcs ⟨rfl, Nat.le_of_ble_eq_true rfl⟩ (fun r1 h9 q => ?_)
  rw [q.1, q.2]
  refine v_aload_n C dL_law_1980 rfl ?_
  refine v_sarg (k := 1) C S hi (by decide) rfl dL_law_1981 dL_law_1982 dL_law_1984 dL_law_1985 dL_law_1986 rfl rfl ?_
  refine v_callV (k := 1) C dL_law_1987 mvL_255 (cq_X8_release w l _ _ _ v h2 g2) rfl ⟨by decide, by decide⟩ hcs ⟨rfl, Nat.le_of_ble_eq_true rfl⟩ (fun r2 h9 q => ?_)
  rw [q.1, q.2]
  exact v_icmp_eq C dL_law_1990 (tgt := 2686) (by decide) (fun _ => kk) (fun z => absurd rfl z)
theorem lc_39 (C : zC w p s m args c 7 cL_law RL) (S : zScr w s xs b L) (hi : i + 6 ≤ L) (hcs : cells + 1 ≤ 601024 ∧ slots + 6 ≤ 7293033) (hop : zO_39 h X M (sx xs (i + 1)) h2)
    (kk : zV w p l e room_1 s m args below meth c 7 (cells + 1) (slots + 6) Q 2686 (zloc b X M O i) [] h2) : zV w p l e room_1 s m args below meth c 7 cells slots Q 1995 (zloc b X M O i) [] h := by
  obtain ⟨v, h1, g1, g2⟩ := hop
  refine v_more (Nat.le_succ _) (Nat.le_add_right _ 6) ?_
  refine v_aload_n C dL_law_1995 rfl ?_
  refine v_sarg (k := 1) C S hi (by decide) rfl dL_law_1996 dL_law_1997 dL_law_1999 dL_law_2000 dL_law_2001 rfl rfl ?_
  refine v_callV (k := 1) C dL_law_2002 mvL_256 (cq_X7_advance w l _ _ _ v h1 g1) rfl ⟨by decide, by decide⟩ hcs ⟨rfl, Nat.le_of_ble_eq_true rfl⟩ (fun r1 h9 q => ?_)
  rw [q.1, q.2]
  refine v_aload_n C dL_law_2005 rfl ?_
  refine v_sarg (k := 1) C S hi (by decide) rfl dL_law_2006 dL_law_2007 dL_law_2009 dL_law_2010 dL_law_2011 rfl rfl ?_
  refine v_callV (k := 1) C dL_law_2012 mvL_259 (cq_X8_advance w l _ _ _ v h2 g2) rfl ⟨by decide, by decide⟩ hcs ⟨rfl, Nat.le_of_ble_eq_true rfl⟩ (fun r2 h9 q => ?_)
  rw [q.1, q.2]
  exact v_icmp_eq C dL_law_2015 (tgt := 2686) (by decide) (fun _ => kk) (fun z => absurd rfl z)
theorem lc_40 (C : zC w p s m args c 7 cL_law RL) (S : zScr w s xs b L) (hi : i + 6 ≤ L) (hcs : cells + 1 ≤ 601024 ∧ slots + 6 ≤ 7293033) (hop : zO_40 h X M (sx xs (i + 1)) (sx xs (i + 2)) h2)
    (kk : zV w p l e room_1 s m args below meth c 7 (cells + 1) (slots + 6) Q 2686 (zloc b X M O i) [] h2) : zV w p l e room_1 s m args below meth c 7 cells slots Q 2020 (zloc b X M O i) [] h := by
  obtain ⟨v, h1, g1, g2⟩ := hop
  refine v_more (Nat.le_succ _) (Nat.le_add_right _ 6) ?_
  refine v_aload_n C dL_law_2020 rfl ?_
  refine v_sarg (k := 1) C S hi (by decide) rfl dL_law_2021 dL_law_2022 dL_law_2024 dL_law_2025 dL_law_2026 rfl rfl ?_
  refine v_sarg (k := 2) C S hi (by decide) rfl dL_law_2027 dL_law_2028 dL_law_2030 dL_law_2031 dL_law_2032 rfl rfl ?_
  refine v_callV (k := 2) C dL_law_2033 mvL_260 (cq_X7_setSetting w l _ _ _ _ v h1 g1) rfl ⟨by decide, by decide⟩ hcs ⟨rfl, Nat.le_of_ble_eq_true rfl⟩ (fun r1 h9 q => ?_)
  rw [q.1, q.2]
  refine v_aload_n C dL_law_2036 rfl ?_
  refine v_sarg (k := 1) C S hi (by decide) rfl dL_law_2037 dL_law_2038 dL_law_2040 dL_law_2041 dL_law_2042 rfl rfl ?_
  refine v_sarg (k := 2) C S hi (by decide) rfl dL_law_2043 dL_law_2044 dL_law_2046 dL_law_2047 dL_law_2048 rfl rfl ?_
  refine v_callV (k := 2) C dL_law_2049 mvL_263 (cq_X8_setSetting w l _ _ _ _ v h2 g2) rfl ⟨by decide, by decide⟩ hcs ⟨rfl, Nat.le_of_ble_eq_true rfl⟩ (fun r2 h9 q => ?_)
  rw [q.1, q.2]
  exact v_icmp_eq C dL_law_2052 (tgt := 2686) (by decide) (fun _ => kk) (fun z => absurd rfl z)
theorem lc_41 (C : zC w p s m args c 7 cL_law RL) (S : zScr w s xs b L) (hi : i + 6 ≤ L) (hcs : cells + 1 ≤ 601024 ∧ slots + 6 ≤ 7293033) (hop : zO_41 h X M (sx xs (i + 1)) h2)
    (kk : zV w p l e room_1 s m args below meth c 7 (cells + 1) (slots + 6) Q 2686 (zloc b X M O i) [] h2) : zV w p l e room_1 s m args below meth c 7 cells slots Q 2057 (zloc b X M O i) [] h := by
  obtain ⟨v, h1, g1, g2⟩ := hop
  refine v_more (Nat.le_succ _) (Nat.le_add_right _ 6) ?_
  refine v_aload_n C dL_law_2057 rfl ?_
  refine v_sarg (k := 1) C S hi (by decide) rfl dL_law_2058 dL_law_2059 dL_law_2061 dL_law_2062 dL_law_2063 rfl rfl ?_
  refine v_callV (k := 1) C dL_law_2064 mvL_264 (cq_X7_acquire w l _ _ _ v h1 g1) rfl ⟨by decide, by decide⟩ hcs ⟨rfl, Nat.le_of_ble_eq_true rfl⟩ (fun r1 h9 q => ?_)
  rw [q.1, q.2]
  refine v_aload_n C dL_law_2067 rfl ?_
  refine v_sarg (k := 1) C S hi (by decide) rfl dL_law_2068 dL_law_2069 dL_law_2071 dL_law_2072 dL_law_2073 rfl rfl ?_
  refine v_callV (k := 1) C dL_law_2074 mvL_268 (cq_X8_acquire w l _ _ _ v h2 g2) rfl ⟨by decide, by decide⟩ hcs ⟨rfl, Nat.le_of_ble_eq_true rfl⟩ (fun r2 h9 q => ?_)
  rw [q.1, q.2]
  exact v_icmp_eq C dL_law_2077 (tgt := 2686) (by decide) (fun _ => kk) (fun z => absurd rfl z)
theorem lc_42 (C : zC w p s m args c 7 cL_law RL) (S : zScr w s xs b L) (hi : i + 6 ≤ L) (hcs : cells + 1 ≤ 601024 ∧ slots + 6 ≤ 7293033) (hop : zO_42 h X M  h2)
    (kk : zV w p l e room_1 s m args below meth c 7 (cells + 1) (slots + 6) Q 2686 (zloc b X M O i) [] h2) : zV w p l e room_1 s m args below meth c 7 cells slots Q 2082 (zloc b X M O i) [] h := by
  obtain ⟨v, h1, g1, g2⟩ := hop
  refine v_more (Nat.le_succ _) (Nat.le_add_right _ 6) ?_
  refine v_aload_n C dL_law_2082 rfl ?_
  refine v_callV (k := 0) C dL_law_2083 mvL_269 (cq_X7_compact w l _ _ v h1 g1) rfl ⟨by decide, by decide⟩ hcs ⟨rfl, Nat.le_of_ble_eq_true rfl⟩ (fun r1 h9 q => ?_)
  rw [q.1, q.2]
  refine v_aload_n C dL_law_2086 rfl ?_
  refine v_callV (k := 0) C dL_law_2087 mvL_272 (cq_X8_compact w l _ _ v h2 g2) rfl ⟨by decide, by decide⟩ hcs ⟨rfl, Nat.le_of_ble_eq_true rfl⟩ (fun r2 h9 q => ?_)
  rw [q.1, q.2]
  exact v_icmp_eq C dL_law_2090 (tgt := 2686) (by decide) (fun _ => kk) (fun z => absurd rfl z)
theorem lc_43 (C : zC w p s m args c 7 cL_law RL) (S : zScr w s xs b L) (hi : i + 6 ≤ L) (hcs : cells + 1 ≤ 601024 ∧ slots + 6 ≤ 7293033) (hop : zO_43 h X M  h2)
    (kk : zV w p l e room_1 s m args below meth c 7 (cells + 1) (slots + 6) Q 2686 (zloc b X M O i) [] h2) : zV w p l e room_1 s m args below meth c 7 cells slots Q 2095 (zloc b X M O i) [] h := by
  obtain ⟨v, h1, g1, g2⟩ := hop
  refine v_more (Nat.le_succ _) (Nat.le_add_right _ 6) ?_
  refine v_aload_n C dL_law_2095 rfl ?_
  refine v_callV (k := 0) C dL_law_2096 mvL_273 (cq_X7_undo w l _ _ v h1 g1) rfl ⟨by decide, by decide⟩ hcs ⟨rfl, Nat.le_of_ble_eq_true rfl⟩ (fun r1 h9 q => ?_)
  rw [q.1, q.2]
  refine v_aload_n C dL_law_2099 rfl ?_
  refine v_callV (k := 0) C dL_law_2100 mvL_276 (cq_X8_undo w l _ _ v h2 g2) rfl ⟨by decide, by decide⟩ hcs ⟨rfl, Nat.le_of_ble_eq_true rfl⟩ (fun r2 h9 q => ?_)
  rw [q.1, q.2]
  exact v_icmp_eq C dL_law_2103 (tgt := 2686) (by decide) (fun _ => kk) (fun z => absurd rfl z)
theorem lc_44 (C : zC w p s m args c 7 cL_law RL) (hl0 : l.stackTraces = false) (S : zScr w s xs b L) (hi : i + 6 ≤ L) (hcs : cells + 1 ≤ 601024 ∧ slots + 6 ≤ 7293033) (hop : zO_44 h X M O (sx xs (i + 1)) (sx xs (i + 2)) h2)
    (kk : zV w p l e room_1 s m args below meth c 7 (cells + 1) (slots + 6) Q 2686 (zloc b X M O i) [] h2) : zV w p l e room_1 s m args below meth c 7 cells slots Q 2108 (zloc b X M O i) [] h := by
  refine v_aload_n C dL_law_2108 rfl ?_
  refine v_sarg (k := 1) C S hi (by decide) rfl dL_law_2109 dL_law_2110 dL_law_2112 dL_law_2113 dL_law_2114 rfl rfl ?_
  refine v_sarg (k := 2) C S hi (by decide) rfl dL_law_2115 dL_law_2116 dL_law_2118 dL_law_2119 dL_law_2120 rfl rfl ?_
  refine v_aload_n C dL_law_2121 rfl ?_
  rcases hop with ⟨v, g1, g2, g3, g4⟩ | ⟨gx, v, g2, g3⟩
  · refine v_wcall (k := 4) C dL_law_2122 mwL_277 (w_callOver w l _ _ _ _ _ v g1) rfl ⟨by decide, by decide⟩ hcs ⟨rfl, Nat.le_of_ble_eq_true rfl⟩ (fun r1 h9 q => ?_)
    rw [q.1, q.2]
    refine v_istore C dL_law_2125 (by decide) ?_
    refine v_aload_n C dL_law_2127 rfl ?_
    refine v_sarg (k := 1) C S hi (by decide) rfl dL_law_2128 dL_law_2129 dL_law_2131 dL_law_2132 dL_law_2133 rfl rfl ?_
    refine v_sarg (k := 2) C S hi (by decide) rfl dL_law_2134 dL_law_2135 dL_law_2137 dL_law_2138 dL_law_2139 rfl rfl ?_
    refine v_callV (k := 2) C dL_law_2140 mvL_279 (cq_X8_callOver w l _ _ _ _ v h2 g2) rfl ⟨by decide, by decide⟩ hcs ⟨rfl, Nat.le_of_ble_eq_true rfl⟩ (fun r2 h9 q => ?_)
    rw [q.1, q.2]
    refine v_istore C dL_law_2143 (by decide) ?_
    refine v_aload_n C dL_law_2145 rfl ?_
    refine v_callV (k := 0) C dL_law_2146 mvL_162 (cq_X8_thrown w l _ _ 0 g3) rfl ⟨by decide, by decide⟩ hcs ⟨rfl, Nat.le_of_ble_eq_true rfl⟩ (fun r3 h9 q => ?_)
    rw [q.1, q.2]
    refine v_iload C dL_law_2149 rfl ?_
    refine v_icmp_eq C dL_law_2151 (tgt := 2156) (by decide) (fun _ => ?_) (fun z => absurd rfl z)
    refine v_iload C dL_law_2156 rfl ?_
    refine v_if_ne C dL_law_2158 (tgt := 2173) (by decide) (fun z => absurd rfl z) (fun _ => ?_)
    refine v_aload_n C dL_law_2161 rfl ?_
    refine v_iconst C dL_law_2162 rfl ?_
    exact v_cmpO C (tgt := 2173) g4 dL_law_2163 dL_law_2164 dL_law_2166 dL_law_2167 dL_law_2168 (by decide) rfl (v_goto C dL_law_2173 (tgt := 2686) (by decide) (v_loc (fun k9 v9 h9 => zloc_ok56 h9) kk))
  · refine v_wcall (k := 4) C dL_law_2122 mwL_277 (wx_callOver w l _ _ _ _ _ (x_X7_callOver w l hl0 _ _ _ _ gx)) rfl ⟨by decide, by decide⟩ hcs ⟨rfl, Nat.le_of_ble_eq_true rfl⟩ (fun r1 h9 q => ?_)
    rw [q.1, q.2]
    refine v_istore C dL_law_2125 (by decide) ?_
    refine v_aload_n C dL_law_2127 rfl ?_
    refine v_sarg (k := 1) C S hi (by decide) rfl dL_law_2128 dL_law_2129 dL_law_2131 dL_law_2132 dL_law_2133 rfl rfl ?_
    refine v_sarg (k := 2) C S hi (by decide) rfl dL_law_2134 dL_law_2135 dL_law_2137 dL_law_2138 dL_law_2139 rfl rfl ?_
    refine v_callV (k := 2) C dL_law_2140 mvL_279 (cq_X8_callOver w l _ _ _ _ v h2 g2) rfl ⟨by decide, by decide⟩ hcs ⟨rfl, Nat.le_of_ble_eq_true rfl⟩ (fun r2 h9 q => ?_)
    rw [q.1, q.2]
    refine v_istore C dL_law_2143 (by decide) ?_
    refine v_aload_n C dL_law_2145 rfl ?_
    refine v_callV (k := 0) C dL_law_2146 mvL_162 (cq_X8_thrown w l _ _ 1 g3) rfl ⟨by decide, by decide⟩ hcs ⟨rfl, Nat.le_of_ble_eq_true rfl⟩ (fun r3 h9 q => ?_)
    rw [q.1, q.2]
    refine v_iload C dL_law_2149 rfl ?_
    refine v_icmp_eq C dL_law_2151 (tgt := 2156) (by decide) (fun _ => ?_) (fun z => absurd rfl z)
    refine v_iload C dL_law_2156 rfl ?_
    exact v_if_ne C dL_law_2158 (tgt := 2173) (by decide) (fun _ => v_goto C dL_law_2173 (tgt := 2686) (by decide) (v_loc (fun k9 v9 h9 => zloc_ok56 h9) kk)) (fun z => absurd z (by decide))
theorem lc_45 (C : zC w p s m args c 7 cL_law RL) (hl0 : l.stackTraces = false) (S : zScr w s xs b L) (hi : i + 6 ≤ L) (hcs : cells + 1 ≤ 601024 ∧ slots + 6 ≤ 7293033) (hop : zO_45 h X M O (sx xs (i + 1)) (sx xs (i + 2)) h2)
    (kk : zV w p l e room_1 s m args below meth c 7 (cells + 1) (slots + 6) Q 2686 (zloc b X M O i) [] h2) : zV w p l e room_1 s m args below meth c 7 cells slots Q 2176 (zloc b X M O i) [] h := by
  refine v_aload_n C dL_law_2176 rfl ?_
  refine v_sarg (k := 1) C S hi (by decide) rfl dL_law_2177 dL_law_2178 dL_law_2180 dL_law_2181 dL_law_2182 rfl rfl ?_
  refine v_sarg (k := 2) C S hi (by decide) rfl dL_law_2183 dL_law_2184 dL_law_2186 dL_law_2187 dL_law_2188 rfl rfl ?_
  refine v_aload_n C dL_law_2189 rfl ?_
  rcases hop with ⟨v, g1, g2, g3, g4⟩ | ⟨gx, v, g2, g3⟩ | ⟨⟨r0, gp⟩, gx, v, g2, g3⟩
  · refine v_wcall (k := 4) C dL_law_2190 mwL_280 (w_earliestStart w l _ _ _ _ _ v g1) rfl ⟨by decide, by decide⟩ hcs ⟨rfl, Nat.le_of_ble_eq_true rfl⟩ (fun r1 h9 q => ?_)
    rw [q.1, q.2]
    refine v_istore C dL_law_2193 (by decide) ?_
    refine v_aload_n C dL_law_2195 rfl ?_
    refine v_sarg (k := 1) C S hi (by decide) rfl dL_law_2196 dL_law_2197 dL_law_2199 dL_law_2200 dL_law_2201 rfl rfl ?_
    refine v_sarg (k := 2) C S hi (by decide) rfl dL_law_2202 dL_law_2203 dL_law_2205 dL_law_2206 dL_law_2207 rfl rfl ?_
    refine v_callV (k := 2) C dL_law_2208 mvL_282 (cq_X8_earliestStart w l _ _ _ _ v h2 g2) rfl ⟨by decide, by decide⟩ hcs ⟨rfl, Nat.le_of_ble_eq_true rfl⟩ (fun r2 h9 q => ?_)
    rw [q.1, q.2]
    refine v_istore C dL_law_2211 (by decide) ?_
    refine v_aload_n C dL_law_2213 rfl ?_
    refine v_callV (k := 0) C dL_law_2214 mvL_162 (cq_X8_thrown w l _ _ 0 g3) rfl ⟨by decide, by decide⟩ hcs ⟨rfl, Nat.le_of_ble_eq_true rfl⟩ (fun r3 h9 q => ?_)
    rw [q.1, q.2]
    refine v_iload C dL_law_2217 rfl ?_
    refine v_icmp_eq C dL_law_2219 (tgt := 2224) (by decide) (fun _ => ?_) (fun z => absurd rfl z)
    refine v_iload C dL_law_2224 rfl ?_
    refine v_if_ne C dL_law_2226 (tgt := 2241) (by decide) (fun z => absurd rfl z) (fun _ => ?_)
    refine v_aload_n C dL_law_2229 rfl ?_
    refine v_iconst C dL_law_2230 rfl ?_
    exact v_cmpO C (tgt := 2241) g4 dL_law_2231 dL_law_2232 dL_law_2234 dL_law_2235 dL_law_2236 (by decide) rfl (v_goto C dL_law_2241 (tgt := 2686) (by decide) (v_loc (fun k9 v9 h9 => zloc_ok56 h9) kk))
  · refine v_wcall (k := 4) C dL_law_2190 mwL_280 (wx_earliestStart w l _ _ _ _ _ (x_X7_earliestStart w l hl0 _ _ _ _ gx)) rfl ⟨by decide, by decide⟩ hcs ⟨rfl, Nat.le_of_ble_eq_true rfl⟩ (fun r1 h9 q => ?_)
    rw [q.1, q.2]
    refine v_istore C dL_law_2193 (by decide) ?_
    refine v_aload_n C dL_law_2195 rfl ?_
    refine v_sarg (k := 1) C S hi (by decide) rfl dL_law_2196 dL_law_2197 dL_law_2199 dL_law_2200 dL_law_2201 rfl rfl ?_
    refine v_sarg (k := 2) C S hi (by decide) rfl dL_law_2202 dL_law_2203 dL_law_2205 dL_law_2206 dL_law_2207 rfl rfl ?_
    refine v_callV (k := 2) C dL_law_2208 mvL_282 (cq_X8_earliestStart w l _ _ _ _ v h2 g2) rfl ⟨by decide, by decide⟩ hcs ⟨rfl, Nat.le_of_ble_eq_true rfl⟩ (fun r2 h9 q => ?_)
    rw [q.1, q.2]
    refine v_istore C dL_law_2211 (by decide) ?_
    refine v_aload_n C dL_law_2213 rfl ?_
    refine v_callV (k := 0) C dL_law_2214 mvL_162 (cq_X8_thrown w l _ _ 1 g3) rfl ⟨by decide, by decide⟩ hcs ⟨rfl, Nat.le_of_ble_eq_true rfl⟩ (fun r3 h9 q => ?_)
    rw [q.1, q.2]
    refine v_iload C dL_law_2217 rfl ?_
    refine v_icmp_eq C dL_law_2219 (tgt := 2224) (by decide) (fun _ => ?_) (fun z => absurd rfl z)
    refine v_iload C dL_law_2224 rfl ?_
    exact v_if_ne C dL_law_2226 (tgt := 2241) (by decide) (fun _ => v_goto C dL_law_2241 (tgt := 2686) (by decide) (v_loc (fun k9 v9 h9 => zloc_ok56 h9) kk)) (fun z => absurd z (by decide))
  · refine v_wcall (k := 4) C dL_law_2190 mwL_280 (wx_earliestStart w l _ _ _ _ _ (x_X7_earliestStart_2 w l hl0 _ _ _ _ r0 gp gx)) rfl ⟨by decide, by decide⟩ hcs ⟨rfl, Nat.le_of_ble_eq_true rfl⟩ (fun r1 h9 q => ?_)
    rw [q.1, q.2]
    refine v_istore C dL_law_2193 (by decide) ?_
    refine v_aload_n C dL_law_2195 rfl ?_
    refine v_sarg (k := 1) C S hi (by decide) rfl dL_law_2196 dL_law_2197 dL_law_2199 dL_law_2200 dL_law_2201 rfl rfl ?_
    refine v_sarg (k := 2) C S hi (by decide) rfl dL_law_2202 dL_law_2203 dL_law_2205 dL_law_2206 dL_law_2207 rfl rfl ?_
    refine v_callV (k := 2) C dL_law_2208 mvL_282 (cq_X8_earliestStart w l _ _ _ _ v h2 g2) rfl ⟨by decide, by decide⟩ hcs ⟨rfl, Nat.le_of_ble_eq_true rfl⟩ (fun r2 h9 q => ?_)
    rw [q.1, q.2]
    refine v_istore C dL_law_2211 (by decide) ?_
    refine v_aload_n C dL_law_2213 rfl ?_
    refine v_callV (k := 0) C dL_law_2214 mvL_162 (cq_X8_thrown w l _ _ 1 g3) rfl ⟨by decide, by decide⟩ hcs ⟨rfl, Nat.le_of_ble_eq_true rfl⟩ (fun r3 h9 q => ?_)
    rw [q.1, q.2]
    refine v_iload C dL_law_2217 rfl ?_
    refine v_icmp_eq C dL_law_2219 (tgt := 2224) (by decide) (fun _ => ?_) (fun z => absurd rfl z)
    refine v_iload C dL_law_2224 rfl ?_
    exact v_if_ne C dL_law_2226 (tgt := 2241) (by decide) (fun _ => v_goto C dL_law_2241 (tgt := 2686) (by decide) (v_loc (fun k9 v9 h9 => zloc_ok56 h9) kk)) (fun z => absurd z (by decide))
theorem lc_46 (C : zC w p s m args c 7 cL_law RL) (hl0 : l.stackTraces = false) (S : zScr w s xs b L) (hi : i + 6 ≤ L) (hcs : cells + 1 ≤ 601024 ∧ slots + 6 ≤ 7293033) (hop : zO_46 h X M O (sx xs (i + 1)) h2)
    (kk : zV w p l e room_1 s m args below meth c 7 (cells + 1) (slots + 6) Q 2686 (zloc b X M O i) [] h2) : zV w p l e room_1 s m args below meth c 7 cells slots Q 2244 (zloc b X M O i) [] h := by
  refine v_aload_n C dL_law_2244 rfl ?_
  refine v_sarg (k := 1) C S hi (by decide) rfl dL_law_2245 dL_law_2246 dL_law_2248 dL_law_2249 dL_law_2250 rfl rfl ?_
  refine v_aload_n C dL_law_2251 rfl ?_
  rcases hop with ⟨v, g1, g2, g3, g4⟩ | ⟨gx, v, g2, g3⟩
  · refine v_wcall (k := 3) C dL_law_2252 mwL_283 (w_conflicts w l _ _ _ _ v g1) rfl ⟨by decide, by decide⟩ hcs ⟨rfl, Nat.le_of_ble_eq_true rfl⟩ (fun r1 h9 q => ?_)
    rw [q.1, q.2]
    refine v_istore C dL_law_2255 (by decide) ?_
    refine v_aload_n C dL_law_2257 rfl ?_
    refine v_sarg (k := 1) C S hi (by decide) rfl dL_law_2258 dL_law_2259 dL_law_2261 dL_law_2262 dL_law_2263 rfl rfl ?_
    refine v_callV (k := 1) C dL_law_2264 mvL_285 (cq_X8_conflicts w l _ _ _ v h2 g2) rfl ⟨by decide, by decide⟩ hcs ⟨rfl, Nat.le_of_ble_eq_true rfl⟩ (fun r2 h9 q => ?_)
    rw [q.1, q.2]
    refine v_istore C dL_law_2267 (by decide) ?_
    refine v_aload_n C dL_law_2269 rfl ?_
    refine v_callV (k := 0) C dL_law_2270 mvL_162 (cq_X8_thrown w l _ _ 0 g3) rfl ⟨by decide, by decide⟩ hcs ⟨rfl, Nat.le_of_ble_eq_true rfl⟩ (fun r3 h9 q => ?_)
    rw [q.1, q.2]
    refine v_iload C dL_law_2273 rfl ?_
    refine v_icmp_eq C dL_law_2275 (tgt := 2280) (by decide) (fun _ => ?_) (fun z => absurd rfl z)
    refine v_iload C dL_law_2280 rfl ?_
    refine v_if_ne C dL_law_2282 (tgt := 2297) (by decide) (fun z => absurd rfl z) (fun _ => ?_)
    refine v_aload_n C dL_law_2285 rfl ?_
    refine v_iconst C dL_law_2286 rfl ?_
    exact v_cmpO C (tgt := 2297) g4 dL_law_2287 dL_law_2288 dL_law_2290 dL_law_2291 dL_law_2292 (by decide) rfl (v_goto C dL_law_2297 (tgt := 2686) (by decide) (v_loc (fun k9 v9 h9 => zloc_ok56 h9) kk))
  · refine v_wcall (k := 3) C dL_law_2252 mwL_283 (wx_conflicts w l _ _ _ _ (x_X7_conflicts w l hl0 _ _ _ gx)) rfl ⟨by decide, by decide⟩ hcs ⟨rfl, Nat.le_of_ble_eq_true rfl⟩ (fun r1 h9 q => ?_)
    rw [q.1, q.2]
    refine v_istore C dL_law_2255 (by decide) ?_
    refine v_aload_n C dL_law_2257 rfl ?_
    refine v_sarg (k := 1) C S hi (by decide) rfl dL_law_2258 dL_law_2259 dL_law_2261 dL_law_2262 dL_law_2263 rfl rfl ?_
    refine v_callV (k := 1) C dL_law_2264 mvL_285 (cq_X8_conflicts w l _ _ _ v h2 g2) rfl ⟨by decide, by decide⟩ hcs ⟨rfl, Nat.le_of_ble_eq_true rfl⟩ (fun r2 h9 q => ?_)
    rw [q.1, q.2]
    refine v_istore C dL_law_2267 (by decide) ?_
    refine v_aload_n C dL_law_2269 rfl ?_
    refine v_callV (k := 0) C dL_law_2270 mvL_162 (cq_X8_thrown w l _ _ 1 g3) rfl ⟨by decide, by decide⟩ hcs ⟨rfl, Nat.le_of_ble_eq_true rfl⟩ (fun r3 h9 q => ?_)
    rw [q.1, q.2]
    refine v_iload C dL_law_2273 rfl ?_
    refine v_icmp_eq C dL_law_2275 (tgt := 2280) (by decide) (fun _ => ?_) (fun z => absurd rfl z)
    refine v_iload C dL_law_2280 rfl ?_
    exact v_if_ne C dL_law_2282 (tgt := 2297) (by decide) (fun _ => v_goto C dL_law_2297 (tgt := 2686) (by decide) (v_loc (fun k9 v9 h9 => zloc_ok56 h9) kk)) (fun z => absurd z (by decide))
theorem lc_47 (C : zC w p s m args c 7 cL_law RL) (S : zScr w s xs b L) (hi : i + 6 ≤ L) (hcs : cells + 1 ≤ 601024 ∧ slots + 6 ≤ 7293033) (hop : zO_47 h X M  h2)
    (kk : zV w p l e room_1 s m args below meth c 7 (cells + 1) (slots + 6) Q 2686 (zloc b X M O i) [] h2) : zV w p l e room_1 s m args below meth c 7 cells slots Q 2300 (zloc b X M O i) [] h := by
  obtain ⟨v, g1, g2⟩ := hop
  refine v_more (Nat.le_succ _) (Nat.le_add_right _ 6) ?_
  refine v_aload_n C dL_law_2300 rfl ?_
  refine v_callV (k := 0) C dL_law_2301 mvL_286 (cq_X7_busiestStation w l _ _ v g1) rfl ⟨by decide, by decide⟩ hcs ⟨rfl, Nat.le_of_ble_eq_true rfl⟩ (fun r1 h9 q => ?_)
  rw [q.1, q.2]
  refine v_aload_n C dL_law_2304 rfl ?_
  refine v_callV (k := 0) C dL_law_2305 mvL_289 (cq_X8_busiestStation w l _ _ v h2 g2) rfl ⟨by decide, by decide⟩ hcs ⟨rfl, Nat.le_of_ble_eq_true rfl⟩ (fun r2 h9 q => ?_)
  rw [q.1, q.2]
  exact v_icmp_eq C dL_law_2308 (tgt := 2686) (by decide) (fun _ => kk) (fun z => absurd rfl z)
theorem lc_48 (C : zC w p s m args c 7 cL_law RL) (hl0 : l.stackTraces = false) (S : zScr w s xs b L) (hi : i + 6 ≤ L) (hcs : cells + 1 ≤ 601024 ∧ slots + 6 ≤ 7293033) (hop : zO_48 h X M O (sx xs (i + 1)) h2)
    (kk : zV w p l e room_1 s m args below meth c 7 (cells + 1) (slots + 6) Q 2686 (zloc b X M O i) [] h2) : zV w p l e room_1 s m args below meth c 7 cells slots Q 2313 (zloc b X M O i) [] h := by
  refine v_aload_n C dL_law_2313 rfl ?_
  refine v_sarg (k := 1) C S hi (by decide) rfl dL_law_2314 dL_law_2315 dL_law_2317 dL_law_2318 dL_law_2319 rfl rfl ?_
  refine v_aload_n C dL_law_2320 rfl ?_
  rcases hop with ⟨v, g1, g2, g3, g4⟩ | ⟨gx, v, g2, g3⟩
  · refine v_wcall (k := 3) C dL_law_2321 mwL_290 (w_loadOf w l _ _ _ _ v g1) rfl ⟨by decide, by decide⟩ hcs ⟨rfl, Nat.le_of_ble_eq_true rfl⟩ (fun r1 h9 q => ?_)
    rw [q.1, q.2]
    refine v_istore C dL_law_2324 (by decide) ?_
    refine v_aload_n C dL_law_2326 rfl ?_
    refine v_sarg (k := 1) C S hi (by decide) rfl dL_law_2327 dL_law_2328 dL_law_2330 dL_law_2331 dL_law_2332 rfl rfl ?_
    refine v_callV (k := 1) C dL_law_2333 mvL_292 (cq_X8_loadOf w l _ _ _ v h2 g2) rfl ⟨by decide, by decide⟩ hcs ⟨rfl, Nat.le_of_ble_eq_true rfl⟩ (fun r2 h9 q => ?_)
    rw [q.1, q.2]
    refine v_istore C dL_law_2336 (by decide) ?_
    refine v_aload_n C dL_law_2338 rfl ?_
    refine v_callV (k := 0) C dL_law_2339 mvL_162 (cq_X8_thrown w l _ _ 0 g3) rfl ⟨by decide, by decide⟩ hcs ⟨rfl, Nat.le_of_ble_eq_true rfl⟩ (fun r3 h9 q => ?_)
    rw [q.1, q.2]
    refine v_iload C dL_law_2342 rfl ?_
    refine v_icmp_eq C dL_law_2344 (tgt := 2349) (by decide) (fun _ => ?_) (fun z => absurd rfl z)
    refine v_iload C dL_law_2349 rfl ?_
    refine v_if_ne C dL_law_2351 (tgt := 2366) (by decide) (fun z => absurd rfl z) (fun _ => ?_)
    refine v_aload_n C dL_law_2354 rfl ?_
    refine v_iconst C dL_law_2355 rfl ?_
    exact v_cmpO C (tgt := 2366) g4 dL_law_2356 dL_law_2357 dL_law_2359 dL_law_2360 dL_law_2361 (by decide) rfl (v_goto C dL_law_2366 (tgt := 2686) (by decide) (v_loc (fun k9 v9 h9 => zloc_ok56 h9) kk))
  · refine v_wcall (k := 3) C dL_law_2321 mwL_290 (wx_loadOf w l _ _ _ _ (x_X7_loadOf w l hl0 _ _ _ gx)) rfl ⟨by decide, by decide⟩ hcs ⟨rfl, Nat.le_of_ble_eq_true rfl⟩ (fun r1 h9 q => ?_)
    rw [q.1, q.2]
    refine v_istore C dL_law_2324 (by decide) ?_
    refine v_aload_n C dL_law_2326 rfl ?_
    refine v_sarg (k := 1) C S hi (by decide) rfl dL_law_2327 dL_law_2328 dL_law_2330 dL_law_2331 dL_law_2332 rfl rfl ?_
    refine v_callV (k := 1) C dL_law_2333 mvL_292 (cq_X8_loadOf w l _ _ _ v h2 g2) rfl ⟨by decide, by decide⟩ hcs ⟨rfl, Nat.le_of_ble_eq_true rfl⟩ (fun r2 h9 q => ?_)
    rw [q.1, q.2]
    refine v_istore C dL_law_2336 (by decide) ?_
    refine v_aload_n C dL_law_2338 rfl ?_
    refine v_callV (k := 0) C dL_law_2339 mvL_162 (cq_X8_thrown w l _ _ 1 g3) rfl ⟨by decide, by decide⟩ hcs ⟨rfl, Nat.le_of_ble_eq_true rfl⟩ (fun r3 h9 q => ?_)
    rw [q.1, q.2]
    refine v_iload C dL_law_2342 rfl ?_
    refine v_icmp_eq C dL_law_2344 (tgt := 2349) (by decide) (fun _ => ?_) (fun z => absurd rfl z)
    refine v_iload C dL_law_2349 rfl ?_
    exact v_if_ne C dL_law_2351 (tgt := 2366) (by decide) (fun _ => v_goto C dL_law_2366 (tgt := 2686) (by decide) (v_loc (fun k9 v9 h9 => zloc_ok56 h9) kk)) (fun z => absurd z (by decide))
theorem lc_49 (C : zC w p s m args c 7 cL_law RL) (hl0 : l.stackTraces = false) (S : zScr w s xs b L) (hi : i + 6 ≤ L) (hcs : cells + 1 ≤ 601024 ∧ slots + 6 ≤ 7293033) (hop : zO_49 h X M O (sx xs (i + 1)) (sx xs (i + 2)) h2)
    (kk : zV w p l e room_1 s m args below meth c 7 (cells + 1) (slots + 6) Q 2686 (zloc b X M O i) [] h2) : zV w p l e room_1 s m args below meth c 7 cells slots Q 2369 (zloc b X M O i) [] h := by
  refine v_aload_n C dL_law_2369 rfl ?_
  refine v_sarg (k := 1) C S hi (by decide) rfl dL_law_2370 dL_law_2371 dL_law_2373 dL_law_2374 dL_law_2375 rfl rfl ?_
  refine v_sarg (k := 2) C S hi (by decide) rfl dL_law_2376 dL_law_2377 dL_law_2379 dL_law_2380 dL_law_2381 rfl rfl ?_
  refine v_aload_n C dL_law_2382 rfl ?_
  rcases hop with ⟨v, h1, g1, g2, g3, g4⟩ | ⟨gx, v, g2, g3⟩
  · refine v_wcall (k := 4) C dL_law_2383 mwL_293 (w_errorAfter w l _ _ _ _ _ v h1 g1) rfl ⟨by decide, by decide⟩ hcs ⟨rfl, Nat.le_of_ble_eq_true rfl⟩ (fun r1 h9 q => ?_)
    rw [q.1, q.2]
    refine v_istore C dL_law_2386 (by decide) ?_
    refine v_aload_n C dL_law_2388 rfl ?_
    refine v_sarg (k := 1) C S hi (by decide) rfl dL_law_2389 dL_law_2390 dL_law_2392 dL_law_2393 dL_law_2394 rfl rfl ?_
    refine v_sarg (k := 2) C S hi (by decide) rfl dL_law_2395 dL_law_2396 dL_law_2398 dL_law_2399 dL_law_2400 rfl rfl ?_
    refine v_callV (k := 2) C dL_law_2401 mvL_295 (cq_X8_errorAfter w l _ _ _ _ v h2 g2) rfl ⟨by decide, by decide⟩ hcs ⟨rfl, Nat.le_of_ble_eq_true rfl⟩ (fun r2 h9 q => ?_)
    rw [q.1, q.2]
    refine v_istore C dL_law_2404 (by decide) ?_
    refine v_aload_n C dL_law_2406 rfl ?_
    refine v_callV (k := 0) C dL_law_2407 mvL_162 (cq_X8_thrown w l _ _ 0 g3) rfl ⟨by decide, by decide⟩ hcs ⟨rfl, Nat.le_of_ble_eq_true rfl⟩ (fun r3 h9 q => ?_)
    rw [q.1, q.2]
    refine v_iload C dL_law_2410 rfl ?_
    refine v_icmp_eq C dL_law_2412 (tgt := 2417) (by decide) (fun _ => ?_) (fun z => absurd rfl z)
    refine v_iload C dL_law_2417 rfl ?_
    refine v_if_ne C dL_law_2419 (tgt := 2434) (by decide) (fun z => absurd rfl z) (fun _ => ?_)
    refine v_aload_n C dL_law_2422 rfl ?_
    refine v_iconst C dL_law_2423 rfl ?_
    exact v_cmpO C (tgt := 2434) g4 dL_law_2424 dL_law_2425 dL_law_2427 dL_law_2428 dL_law_2429 (by decide) rfl (v_goto C dL_law_2434 (tgt := 2686) (by decide) (v_loc (fun k9 v9 h9 => zloc_ok56 h9) kk))
  · refine v_wcall (k := 4) C dL_law_2383 mwL_293 (wx_errorAfter w l _ _ _ _ _ (x_X7_errorAfter w l hl0 _ _ _ _ gx)) rfl ⟨by decide, by decide⟩ hcs ⟨rfl, Nat.le_of_ble_eq_true rfl⟩ (fun r1 h9 q => ?_)
    rw [q.1, q.2]
    refine v_istore C dL_law_2386 (by decide) ?_
    refine v_aload_n C dL_law_2388 rfl ?_
    refine v_sarg (k := 1) C S hi (by decide) rfl dL_law_2389 dL_law_2390 dL_law_2392 dL_law_2393 dL_law_2394 rfl rfl ?_
    refine v_sarg (k := 2) C S hi (by decide) rfl dL_law_2395 dL_law_2396 dL_law_2398 dL_law_2399 dL_law_2400 rfl rfl ?_
    refine v_callV (k := 2) C dL_law_2401 mvL_295 (cq_X8_errorAfter w l _ _ _ _ v h2 g2) rfl ⟨by decide, by decide⟩ hcs ⟨rfl, Nat.le_of_ble_eq_true rfl⟩ (fun r2 h9 q => ?_)
    rw [q.1, q.2]
    refine v_istore C dL_law_2404 (by decide) ?_
    refine v_aload_n C dL_law_2406 rfl ?_
    refine v_callV (k := 0) C dL_law_2407 mvL_162 (cq_X8_thrown w l _ _ 1 g3) rfl ⟨by decide, by decide⟩ hcs ⟨rfl, Nat.le_of_ble_eq_true rfl⟩ (fun r3 h9 q => ?_)
    rw [q.1, q.2]
    refine v_iload C dL_law_2410 rfl ?_
    refine v_icmp_eq C dL_law_2412 (tgt := 2417) (by decide) (fun _ => ?_) (fun z => absurd rfl z)
    refine v_iload C dL_law_2417 rfl ?_
    exact v_if_ne C dL_law_2419 (tgt := 2434) (by decide) (fun _ => v_goto C dL_law_2434 (tgt := 2686) (by decide) (v_loc (fun k9 v9 h9 => zloc_ok56 h9) kk)) (fun z => absurd z (by decide))
theorem lc_50 (C : zC w p s m args c 7 cL_law RL) (hl0 : l.stackTraces = false) (S : zScr w s xs b L) (hi : i + 6 ≤ L) (hcs : cells + 1 ≤ 601024 ∧ slots + 6 ≤ 7293033) (hop : zO_50 h X M O (sx xs (i + 1)) (sx xs (i + 2)) h2)
    (kk : zV w p l e room_1 s m args below meth c 7 (cells + 1) (slots + 6) Q 2686 (zloc b X M O i) [] h2) : zV w p l e room_1 s m args below meth c 7 cells slots Q 2437 (zloc b X M O i) [] h := by
  refine v_aload_n C dL_law_2437 rfl ?_
  refine v_sarg (k := 1) C S hi (by decide) rfl dL_law_2438 dL_law_2439 dL_law_2441 dL_law_2442 dL_law_2443 rfl rfl ?_
  refine v_sarg (k := 2) C S hi (by decide) rfl dL_law_2444 dL_law_2445 dL_law_2447 dL_law_2448 dL_law_2449 rfl rfl ?_
  refine v_aload_n C dL_law_2450 rfl ?_
  rcases hop with ⟨v, g1, g2, g3, g4⟩ | ⟨gx, v, g2, g3⟩
  · refine v_wcall (k := 4) C dL_law_2451 mwL_296 (w_powerAfter w l _ _ _ _ _ v g1) rfl ⟨by decide, by decide⟩ hcs ⟨rfl, Nat.le_of_ble_eq_true rfl⟩ (fun r1 h9 q => ?_)
    rw [q.1, q.2]
    refine v_istore C dL_law_2454 (by decide) ?_
    refine v_aload_n C dL_law_2456 rfl ?_
    refine v_sarg (k := 1) C S hi (by decide) rfl dL_law_2457 dL_law_2458 dL_law_2460 dL_law_2461 dL_law_2462 rfl rfl ?_
    refine v_sarg (k := 2) C S hi (by decide) rfl dL_law_2463 dL_law_2464 dL_law_2466 dL_law_2467 dL_law_2468 rfl rfl ?_
    refine v_callV (k := 2) C dL_law_2469 mvL_298 (cq_X8_powerAfter w l _ _ _ _ v h2 g2) rfl ⟨by decide, by decide⟩ hcs ⟨rfl, Nat.le_of_ble_eq_true rfl⟩ (fun r2 h9 q => ?_)
    rw [q.1, q.2]
    refine v_istore C dL_law_2472 (by decide) ?_
    refine v_aload_n C dL_law_2474 rfl ?_
    refine v_callV (k := 0) C dL_law_2475 mvL_162 (cq_X8_thrown w l _ _ 0 g3) rfl ⟨by decide, by decide⟩ hcs ⟨rfl, Nat.le_of_ble_eq_true rfl⟩ (fun r3 h9 q => ?_)
    rw [q.1, q.2]
    refine v_iload C dL_law_2478 rfl ?_
    refine v_icmp_eq C dL_law_2480 (tgt := 2485) (by decide) (fun _ => ?_) (fun z => absurd rfl z)
    refine v_iload C dL_law_2485 rfl ?_
    refine v_if_ne C dL_law_2487 (tgt := 2502) (by decide) (fun z => absurd rfl z) (fun _ => ?_)
    refine v_aload_n C dL_law_2490 rfl ?_
    refine v_iconst C dL_law_2491 rfl ?_
    exact v_cmpO C (tgt := 2502) g4 dL_law_2492 dL_law_2493 dL_law_2495 dL_law_2496 dL_law_2497 (by decide) rfl (v_goto C dL_law_2502 (tgt := 2686) (by decide) (v_loc (fun k9 v9 h9 => zloc_ok56 h9) kk))
  · refine v_wcall (k := 4) C dL_law_2451 mwL_296 (wx_powerAfter w l _ _ _ _ _ (x_X7_powerAfter w l hl0 _ _ _ _ gx)) rfl ⟨by decide, by decide⟩ hcs ⟨rfl, Nat.le_of_ble_eq_true rfl⟩ (fun r1 h9 q => ?_)
    rw [q.1, q.2]
    refine v_istore C dL_law_2454 (by decide) ?_
    refine v_aload_n C dL_law_2456 rfl ?_
    refine v_sarg (k := 1) C S hi (by decide) rfl dL_law_2457 dL_law_2458 dL_law_2460 dL_law_2461 dL_law_2462 rfl rfl ?_
    refine v_sarg (k := 2) C S hi (by decide) rfl dL_law_2463 dL_law_2464 dL_law_2466 dL_law_2467 dL_law_2468 rfl rfl ?_
    refine v_callV (k := 2) C dL_law_2469 mvL_298 (cq_X8_powerAfter w l _ _ _ _ v h2 g2) rfl ⟨by decide, by decide⟩ hcs ⟨rfl, Nat.le_of_ble_eq_true rfl⟩ (fun r2 h9 q => ?_)
    rw [q.1, q.2]
    refine v_istore C dL_law_2472 (by decide) ?_
    refine v_aload_n C dL_law_2474 rfl ?_
    refine v_callV (k := 0) C dL_law_2475 mvL_162 (cq_X8_thrown w l _ _ 1 g3) rfl ⟨by decide, by decide⟩ hcs ⟨rfl, Nat.le_of_ble_eq_true rfl⟩ (fun r3 h9 q => ?_)
    rw [q.1, q.2]
    refine v_iload C dL_law_2478 rfl ?_
    refine v_icmp_eq C dL_law_2480 (tgt := 2485) (by decide) (fun _ => ?_) (fun z => absurd rfl z)
    refine v_iload C dL_law_2485 rfl ?_
    exact v_if_ne C dL_law_2487 (tgt := 2502) (by decide) (fun _ => v_goto C dL_law_2502 (tgt := 2686) (by decide) (v_loc (fun k9 v9 h9 => zloc_ok56 h9) kk)) (fun z => absurd z (by decide))
theorem lc_51 (C : zC w p s m args c 7 cL_law RL) (hl0 : l.stackTraces = false) (S : zScr w s xs b L) (hi : i + 6 ≤ L) (hcs : cells + 1 ≤ 601024 ∧ slots + 6 ≤ 7293033) (hop : zO_51 h X M O (sx xs (i + 1)) h2)
    (kk : zV w p l e room_1 s m args below meth c 7 (cells + 1) (slots + 6) Q 2686 (zloc b X M O i) [] h2) : zV w p l e room_1 s m args below meth c 7 cells slots Q 2505 (zloc b X M O i) [] h := by
  refine v_aload_n C dL_law_2505 rfl ?_
  refine v_sarg (k := 1) C S hi (by decide) rfl dL_law_2506 dL_law_2507 dL_law_2509 dL_law_2510 dL_law_2511 rfl rfl ?_
  refine v_aload_n C dL_law_2512 rfl ?_
  rcases hop with ⟨v, h1, g1, g2, g3, g4⟩ | ⟨gx, v, g2, g3⟩
  · refine v_wcall (k := 3) C dL_law_2513 mwL_299 (w_framesInTime w l _ _ _ _ v h1 g1) rfl ⟨by decide, by decide⟩ hcs ⟨rfl, Nat.le_of_ble_eq_true rfl⟩ (fun r1 h9 q => ?_)
    rw [q.1, q.2]
    refine v_istore C dL_law_2516 (by decide) ?_
    refine v_aload_n C dL_law_2518 rfl ?_
    refine v_sarg (k := 1) C S hi (by decide) rfl dL_law_2519 dL_law_2520 dL_law_2522 dL_law_2523 dL_law_2524 rfl rfl ?_
    refine v_callV (k := 1) C dL_law_2525 mvL_301 (cq_X8_framesInTime w l _ _ _ v h2 g2) rfl ⟨by decide, by decide⟩ hcs ⟨rfl, Nat.le_of_ble_eq_true rfl⟩ (fun r2 h9 q => ?_)
    rw [q.1, q.2]
    refine v_istore C dL_law_2528 (by decide) ?_
    refine v_aload_n C dL_law_2530 rfl ?_
    refine v_callV (k := 0) C dL_law_2531 mvL_162 (cq_X8_thrown w l _ _ 0 g3) rfl ⟨by decide, by decide⟩ hcs ⟨rfl, Nat.le_of_ble_eq_true rfl⟩ (fun r3 h9 q => ?_)
    rw [q.1, q.2]
    refine v_iload C dL_law_2534 rfl ?_
    refine v_icmp_eq C dL_law_2536 (tgt := 2541) (by decide) (fun _ => ?_) (fun z => absurd rfl z)
    refine v_iload C dL_law_2541 rfl ?_
    refine v_if_ne C dL_law_2543 (tgt := 2558) (by decide) (fun z => absurd rfl z) (fun _ => ?_)
    refine v_aload_n C dL_law_2546 rfl ?_
    refine v_iconst C dL_law_2547 rfl ?_
    exact v_cmpO C (tgt := 2558) g4 dL_law_2548 dL_law_2549 dL_law_2551 dL_law_2552 dL_law_2553 (by decide) rfl (v_goto C dL_law_2558 (tgt := 2686) (by decide) (v_loc (fun k9 v9 h9 => zloc_ok56 h9) kk))
  · refine v_wcall (k := 3) C dL_law_2513 mwL_299 (wx_framesInTime w l _ _ _ _ (x_X7_framesInTime w l hl0 _ _ _ gx)) rfl ⟨by decide, by decide⟩ hcs ⟨rfl, Nat.le_of_ble_eq_true rfl⟩ (fun r1 h9 q => ?_)
    rw [q.1, q.2]
    refine v_istore C dL_law_2516 (by decide) ?_
    refine v_aload_n C dL_law_2518 rfl ?_
    refine v_sarg (k := 1) C S hi (by decide) rfl dL_law_2519 dL_law_2520 dL_law_2522 dL_law_2523 dL_law_2524 rfl rfl ?_
    refine v_callV (k := 1) C dL_law_2525 mvL_301 (cq_X8_framesInTime w l _ _ _ v h2 g2) rfl ⟨by decide, by decide⟩ hcs ⟨rfl, Nat.le_of_ble_eq_true rfl⟩ (fun r2 h9 q => ?_)
    rw [q.1, q.2]
    refine v_istore C dL_law_2528 (by decide) ?_
    refine v_aload_n C dL_law_2530 rfl ?_
    refine v_callV (k := 0) C dL_law_2531 mvL_162 (cq_X8_thrown w l _ _ 1 g3) rfl ⟨by decide, by decide⟩ hcs ⟨rfl, Nat.le_of_ble_eq_true rfl⟩ (fun r3 h9 q => ?_)
    rw [q.1, q.2]
    refine v_iload C dL_law_2534 rfl ?_
    refine v_icmp_eq C dL_law_2536 (tgt := 2541) (by decide) (fun _ => ?_) (fun z => absurd rfl z)
    refine v_iload C dL_law_2541 rfl ?_
    exact v_if_ne C dL_law_2543 (tgt := 2558) (by decide) (fun _ => v_goto C dL_law_2558 (tgt := 2686) (by decide) (v_loc (fun k9 v9 h9 => zloc_ok56 h9) kk)) (fun z => absurd z (by decide))
theorem lc_52 (C : zC w p s m args c 7 cL_law RL) (S : zScr w s xs b L) (hi : i + 6 ≤ L) (hcs : cells + 1 ≤ 601024 ∧ slots + 6 ≤ 7293033) (hop : zO_52 h X M  h2)
    (kk : zV w p l e room_1 s m args below meth c 7 (cells + 1) (slots + 6) Q 2686 (zloc b X M O i) [] h2) : zV w p l e room_1 s m args below meth c 7 cells slots Q 2561 (zloc b X M O i) [] h := by
  obtain ⟨v, g1, g2⟩ := hop
  refine v_more (Nat.le_succ _) (Nat.le_add_right _ 6) ?_
  refine v_aload_n C dL_law_2561 rfl ?_
  refine v_callV (k := 0) C dL_law_2562 mvL_302 (cq_X7_degradedNow w l _ _ v g1) rfl ⟨by decide, by decide⟩ hcs ⟨rfl, Nat.le_of_ble_eq_true rfl⟩ (fun r1 h9 q => ?_)
  rw [q.1, q.2]
  refine v_aload_n C dL_law_2565 rfl ?_
  refine v_callV (k := 0) C dL_law_2566 mvL_305 (cq_X8_degradedNow w l _ _ v h2 g2) rfl ⟨by decide, by decide⟩ hcs ⟨rfl, Nat.le_of_ble_eq_true rfl⟩ (fun r2 h9 q => ?_)
  rw [q.1, q.2]
  exact v_icmp_eq C dL_law_2569 (tgt := 2686) (by decide) (fun _ => kk) (fun z => absurd rfl z)
theorem lc_53 (C : zC w p s m args c 7 cL_law RL) (hl0 : l.stackTraces = false) (S : zScr w s xs b L) (hi : i + 6 ≤ L) (hcs : cells + 1 ≤ 601024 ∧ slots + 6 ≤ 7293033) (hop : zO_53 h X M O (sx xs (i + 1)) h2)
    (kk : zV w p l e room_1 s m args below meth c 7 (cells + 1) (slots + 6) Q 2686 (zloc b X M O i) [] h2) : zV w p l e room_1 s m args below meth c 7 cells slots Q 2574 (zloc b X M O i) [] h := by
  refine v_aload_n C dL_law_2574 rfl ?_
  refine v_sarg (k := 1) C S hi (by decide) rfl dL_law_2575 dL_law_2576 dL_law_2578 dL_law_2579 dL_law_2580 rfl rfl ?_
  refine v_aload_n C dL_law_2581 rfl ?_
  rcases hop with ⟨v, h1, g1, g2, g3, g4⟩ | ⟨gx, v, g2, g3⟩
  · refine v_wcall (k := 3) C dL_law_2582 mwL_306 (w_framesToWait w l _ _ _ _ v h1 g1) rfl ⟨by decide, by decide⟩ hcs ⟨rfl, Nat.le_of_ble_eq_true rfl⟩ (fun r1 h9 q => ?_)
    rw [q.1, q.2]
    refine v_istore C dL_law_2585 (by decide) ?_
    refine v_aload_n C dL_law_2587 rfl ?_
    refine v_sarg (k := 1) C S hi (by decide) rfl dL_law_2588 dL_law_2589 dL_law_2591 dL_law_2592 dL_law_2593 rfl rfl ?_
    refine v_callV (k := 1) C dL_law_2594 mvL_308 (cq_X8_framesToWait w l _ _ _ v h2 g2) rfl ⟨by decide, by decide⟩ hcs ⟨rfl, Nat.le_of_ble_eq_true rfl⟩ (fun r2 h9 q => ?_)
    rw [q.1, q.2]
    refine v_istore C dL_law_2597 (by decide) ?_
    refine v_aload_n C dL_law_2599 rfl ?_
    refine v_callV (k := 0) C dL_law_2600 mvL_162 (cq_X8_thrown w l _ _ 0 g3) rfl ⟨by decide, by decide⟩ hcs ⟨rfl, Nat.le_of_ble_eq_true rfl⟩ (fun r3 h9 q => ?_)
    rw [q.1, q.2]
    refine v_iload C dL_law_2603 rfl ?_
    refine v_icmp_eq C dL_law_2605 (tgt := 2610) (by decide) (fun _ => ?_) (fun z => absurd rfl z)
    refine v_iload C dL_law_2610 rfl ?_
    refine v_if_ne C dL_law_2612 (tgt := 2627) (by decide) (fun z => absurd rfl z) (fun _ => ?_)
    refine v_aload_n C dL_law_2615 rfl ?_
    refine v_iconst C dL_law_2616 rfl ?_
    exact v_cmpO C (tgt := 2627) g4 dL_law_2617 dL_law_2618 dL_law_2620 dL_law_2621 dL_law_2622 (by decide) rfl (v_goto C dL_law_2627 (tgt := 2686) (by decide) (v_loc (fun k9 v9 h9 => zloc_ok56 h9) kk))
  · refine v_wcall (k := 3) C dL_law_2582 mwL_306 (wx_framesToWait w l _ _ _ _ (x_X7_framesToWait w l hl0 _ _ _ gx)) rfl ⟨by decide, by decide⟩ hcs ⟨rfl, Nat.le_of_ble_eq_true rfl⟩ (fun r1 h9 q => ?_)
    rw [q.1, q.2]
    refine v_istore C dL_law_2585 (by decide) ?_
    refine v_aload_n C dL_law_2587 rfl ?_
    refine v_sarg (k := 1) C S hi (by decide) rfl dL_law_2588 dL_law_2589 dL_law_2591 dL_law_2592 dL_law_2593 rfl rfl ?_
    refine v_callV (k := 1) C dL_law_2594 mvL_308 (cq_X8_framesToWait w l _ _ _ v h2 g2) rfl ⟨by decide, by decide⟩ hcs ⟨rfl, Nat.le_of_ble_eq_true rfl⟩ (fun r2 h9 q => ?_)
    rw [q.1, q.2]
    refine v_istore C dL_law_2597 (by decide) ?_
    refine v_aload_n C dL_law_2599 rfl ?_
    refine v_callV (k := 0) C dL_law_2600 mvL_162 (cq_X8_thrown w l _ _ 1 g3) rfl ⟨by decide, by decide⟩ hcs ⟨rfl, Nat.le_of_ble_eq_true rfl⟩ (fun r3 h9 q => ?_)
    rw [q.1, q.2]
    refine v_iload C dL_law_2603 rfl ?_
    refine v_icmp_eq C dL_law_2605 (tgt := 2610) (by decide) (fun _ => ?_) (fun z => absurd rfl z)
    refine v_iload C dL_law_2610 rfl ?_
    exact v_if_ne C dL_law_2612 (tgt := 2627) (by decide) (fun _ => v_goto C dL_law_2627 (tgt := 2686) (by decide) (v_loc (fun k9 v9 h9 => zloc_ok56 h9) kk)) (fun z => absurd z (by decide))
theorem lc_54 (C : zC w p s m args c 7 cL_law RL) (hl0 : l.stackTraces = false) (S : zScr w s xs b L) (hi : i + 6 ≤ L) (hcs : cells + 1 ≤ 601024 ∧ slots + 6 ≤ 7293033) (hop : zO_54 h X M O (sx xs (i + 1)) h2)
    (kk : zV w p l e room_1 s m args below meth c 7 (cells + 1) (slots + 6) Q 2686 (zloc b X M O i) [] h2) : zV w p l e room_1 s m args below meth c 7 cells slots Q 2630 (zloc b X M O i) [] h := by
  refine v_aload_n C dL_law_2630 rfl ?_
  refine v_sarg (k := 1) C S hi (by decide) rfl dL_law_2631 dL_law_2632 dL_law_2634 dL_law_2635 dL_law_2636 rfl rfl ?_
  refine v_aload_n C dL_law_2637 rfl ?_
  rcases hop with ⟨v, g1, g2, g3, g4⟩ | ⟨gx, v, g2, g3⟩
  · refine v_wcall (k := 3) C dL_law_2638 mwL_309 (w_priorityOf w l _ _ _ _ v g1) rfl ⟨by decide, by decide⟩ hcs ⟨rfl, Nat.le_of_ble_eq_true rfl⟩ (fun r1 h9 q => ?_)
    rw [q.1, q.2]
    refine v_istore C dL_law_2641 (by decide) ?_
    refine v_aload_n C dL_law_2643 rfl ?_
    refine v_sarg (k := 1) C S hi (by decide) rfl dL_law_2644 dL_law_2645 dL_law_2647 dL_law_2648 dL_law_2649 rfl rfl ?_
    refine v_callV (k := 1) C dL_law_2650 mvL_311 (cq_X8_priorityOf w l _ _ _ v h2 g2) rfl ⟨by decide, by decide⟩ hcs ⟨rfl, Nat.le_of_ble_eq_true rfl⟩ (fun r2 h9 q => ?_)
    rw [q.1, q.2]
    refine v_istore C dL_law_2653 (by decide) ?_
    refine v_aload_n C dL_law_2655 rfl ?_
    refine v_callV (k := 0) C dL_law_2656 mvL_162 (cq_X8_thrown w l _ _ 0 g3) rfl ⟨by decide, by decide⟩ hcs ⟨rfl, Nat.le_of_ble_eq_true rfl⟩ (fun r3 h9 q => ?_)
    rw [q.1, q.2]
    refine v_iload C dL_law_2659 rfl ?_
    refine v_icmp_eq C dL_law_2661 (tgt := 2666) (by decide) (fun _ => ?_) (fun z => absurd rfl z)
    refine v_iload C dL_law_2666 rfl ?_
    refine v_if_ne C dL_law_2668 (tgt := 2683) (by decide) (fun z => absurd rfl z) (fun _ => ?_)
    refine v_aload_n C dL_law_2671 rfl ?_
    refine v_iconst C dL_law_2672 rfl ?_
    exact v_cmpO C (tgt := 2683) g4 dL_law_2673 dL_law_2674 dL_law_2676 dL_law_2677 dL_law_2678 (by decide) rfl (v_goto C dL_law_2683 (tgt := 2686) (by decide) (v_loc (fun k9 v9 h9 => zloc_ok56 h9) kk))
  · refine v_wcall (k := 3) C dL_law_2638 mwL_309 (wx_priorityOf w l _ _ _ _ (x_X7_priorityOf w l hl0 _ _ _ gx)) rfl ⟨by decide, by decide⟩ hcs ⟨rfl, Nat.le_of_ble_eq_true rfl⟩ (fun r1 h9 q => ?_)
    rw [q.1, q.2]
    refine v_istore C dL_law_2641 (by decide) ?_
    refine v_aload_n C dL_law_2643 rfl ?_
    refine v_sarg (k := 1) C S hi (by decide) rfl dL_law_2644 dL_law_2645 dL_law_2647 dL_law_2648 dL_law_2649 rfl rfl ?_
    refine v_callV (k := 1) C dL_law_2650 mvL_311 (cq_X8_priorityOf w l _ _ _ v h2 g2) rfl ⟨by decide, by decide⟩ hcs ⟨rfl, Nat.le_of_ble_eq_true rfl⟩ (fun r2 h9 q => ?_)
    rw [q.1, q.2]
    refine v_istore C dL_law_2653 (by decide) ?_
    refine v_aload_n C dL_law_2655 rfl ?_
    refine v_callV (k := 0) C dL_law_2656 mvL_162 (cq_X8_thrown w l _ _ 1 g3) rfl ⟨by decide, by decide⟩ hcs ⟨rfl, Nat.le_of_ble_eq_true rfl⟩ (fun r3 h9 q => ?_)
    rw [q.1, q.2]
    refine v_iload C dL_law_2659 rfl ?_
    refine v_icmp_eq C dL_law_2661 (tgt := 2666) (by decide) (fun _ => ?_) (fun z => absurd rfl z)
    refine v_iload C dL_law_2666 rfl ?_
    exact v_if_ne C dL_law_2668 (tgt := 2683) (by decide) (fun _ => v_goto C dL_law_2683 (tgt := 2686) (by decide) (v_loc (fun k9 v9 h9 => zloc_ok56 h9) kk)) (fun z => absurd z (by decide))
end LC
def zI_0 (I : zH → Prop) (X M O : Nat) : Prop := ∀ h, I h → zRg h → ∀ a1 a2 a3 a4 a5 : Int, zR a1 → zR a2 → zR a3 → zR a4 → zR a5 → ∃ h2, zO_0 h X M a1 a2 a3 a4 a5 h2 ∧ I h2
def zI_1 (I : zH → Prop) (X M O : Nat) : Prop := ∀ h, I h → zRg h → ∀ a1 : Int, zR a1 → ∃ h2, zO_1 h X M a1 h2 ∧ I h2
def zI_2 (I : zH → Prop) (X M O : Nat) : Prop := ∀ h, I h → zRg h → ∃ h2, zO_2 h X M h2 ∧ I h2
def zI_3 (I : zH → Prop) (X M O : Nat) : Prop := ∀ h, I h → zRg h → ∃ h2, zO_3 h X M h2 ∧ I h2
def zI_4 (I : zH → Prop) (X M O : Nat) : Prop := ∀ h, I h → zRg h → ∃ h2, zO_4 h X M h2 ∧ I h2
def zI_5 (I : zH → Prop) (X M O : Nat) : Prop := ∀ h, I h → zRg h → ∃ h2, zO_5 h X M h2 ∧ I h2
def zI_6 (I : zH → Prop) (X M O : Nat) : Prop := ∀ h, I h → zRg h → ∃ h2, zO_6 h X M h2 ∧ I h2
def zI_7 (I : zH → Prop) (X M O : Nat) : Prop := ∀ h, I h → zRg h → ∀ a1 : Int, zR a1 → ∃ h2, zO_7 h X M a1 h2 ∧ I h2
def zI_8 (I : zH → Prop) (X M O : Nat) : Prop := ∀ h, I h → zRg h → ∃ h2, zO_8 h X M h2 ∧ I h2
def zI_9 (I : zH → Prop) (X M O : Nat) : Prop := ∀ h, I h → zRg h → ∀ a1 : Int, zR a1 → ∃ h2, zO_9 h X M a1 h2 ∧ I h2
def zI_10 (I : zH → Prop) (X M O : Nat) : Prop := ∀ h, I h → zRg h → ∀ a1 a2 : Int, zR a1 → zR a2 → ∃ h2, zO_10 h X M O a1 a2 h2 ∧ I h2
def zI_11 (I : zH → Prop) (X M O : Nat) : Prop := ∀ h, I h → zRg h → ∀ a1 : Int, zR a1 → ∃ h2, zO_11 h X M O a1 h2 ∧ I h2
def zI_12 (I : zH → Prop) (X M O : Nat) : Prop := ∀ h, I h → zRg h → ∀ a1 : Int, zR a1 → ∃ h2, zO_12 h X M O a1 h2 ∧ I h2
def zI_13 (I : zH → Prop) (X M O : Nat) : Prop := ∀ h, I h → zRg h → ∀ a1 : Int, zR a1 → ∃ h2, zO_13 h X M O a1 h2 ∧ I h2
def zI_14 (I : zH → Prop) (X M O : Nat) : Prop := ∀ h, I h → zRg h → ∀ a1 : Int, zR a1 → ∃ h2, zO_14 h X M O a1 h2 ∧ I h2
def zI_15 (I : zH → Prop) (X M O : Nat) : Prop := ∀ h, I h → zRg h → ∀ a1 : Int, zR a1 → ∃ h2, zO_15 h X M O a1 h2 ∧ I h2
def zI_16 (I : zH → Prop) (X M O : Nat) : Prop := ∀ h, I h → zRg h → ∀ a1 : Int, zR a1 → ∃ h2, zO_16 h X M O a1 h2 ∧ I h2
def zI_17 (I : zH → Prop) (X M O : Nat) : Prop := ∀ h, I h → zRg h → ∀ a1 : Int, zR a1 → ∃ h2, zO_17 h X M O a1 h2 ∧ I h2
def zI_18 (I : zH → Prop) (X M O : Nat) : Prop := ∀ h, I h → zRg h → ∀ a1 : Int, zR a1 → ∃ h2, zO_18 h X M O a1 h2 ∧ I h2
def zI_19 (I : zH → Prop) (X M O : Nat) : Prop := ∀ h, I h → zRg h → ∀ a1 : Int, zR a1 → ∃ h2, zO_19 h X M O a1 h2 ∧ I h2
def zI_20 (I : zH → Prop) (X M O : Nat) : Prop := ∀ h, I h → zRg h → ∀ a1 : Int, zR a1 → ∃ h2, zO_20 h X M O a1 h2 ∧ I h2
def zI_21 (I : zH → Prop) (X M O : Nat) : Prop := ∀ h, I h → zRg h → ∀ a1 : Int, zR a1 → ∃ h2, zO_21 h X M O a1 h2 ∧ I h2
def zI_22 (I : zH → Prop) (X M O : Nat) : Prop := ∀ h, I h → zRg h → ∀ a1 : Int, zR a1 → ∃ h2, zO_22 h X M O a1 h2 ∧ I h2
def zI_23 (I : zH → Prop) (X M O : Nat) : Prop := ∀ h, I h → zRg h → ∀ a1 : Int, zR a1 → ∃ h2, zO_23 h X M O a1 h2 ∧ I h2
def zI_24 (I : zH → Prop) (X M O : Nat) : Prop := ∀ h, I h → zRg h → ∀ a1 : Int, zR a1 → ∃ h2, zO_24 h X M O a1 h2 ∧ I h2
def zI_25 (I : zH → Prop) (X M O : Nat) : Prop := ∀ h, I h → zRg h → ∀ a1 : Int, zR a1 → ∃ h2, zO_25 h X M O a1 h2 ∧ I h2
def zI_26 (I : zH → Prop) (X M O : Nat) : Prop := ∀ h, I h → zRg h → ∀ a1 : Int, zR a1 → ∃ h2, zO_26 h X M a1 h2 ∧ I h2
def zI_27 (I : zH → Prop) (X M O : Nat) : Prop := ∀ h, I h → zRg h → ∃ h2, zO_27 h X M h2 ∧ I h2
def zI_28 (I : zH → Prop) (X M O : Nat) : Prop := ∀ h, I h → zRg h → ∀ a1 : Int, zR a1 → ∃ h2, zO_28 h X M O a1 h2 ∧ I h2
def zI_29 (I : zH → Prop) (X M O : Nat) : Prop := ∀ h, I h → zRg h → ∀ a1 : Int, zR a1 → ∃ h2, zO_29 h X M O a1 h2 ∧ I h2
def zI_30 (I : zH → Prop) (X M O : Nat) : Prop := ∀ h, I h → zRg h → ∀ a1 a2 : Int, zR a1 → zR a2 → ∃ h2, zO_30 h X M O a1 a2 h2 ∧ I h2
def zI_31 (I : zH → Prop) (X M O : Nat) : Prop := ∀ h, I h → zRg h → ∀ a1 : Int, zR a1 → ∃ h2, zO_31 h X M O a1 h2 ∧ I h2
def zI_32 (I : zH → Prop) (X M O : Nat) : Prop := ∀ h, I h → zRg h → ∃ h2, zO_32 h X M h2 ∧ I h2
def zI_33 (I : zH → Prop) (X M O : Nat) : Prop := ∀ h, I h → zRg h → ∀ a1 a2 : Int, zR a1 → zR a2 → ∃ h2, zO_33 h X M O a1 a2 h2 ∧ I h2
def zI_34 (I : zH → Prop) (X M O : Nat) : Prop := ∀ h, I h → zRg h → ∀ a1 : Int, zR a1 → ∃ h2, zO_34 h X M O a1 h2 ∧ I h2
def zI_35 (I : zH → Prop) (X M O : Nat) : Prop := ∀ h, I h → zRg h → ∃ h2, zO_35 h X M h2 ∧ I h2
def zI_36 (I : zH → Prop) (X M O : Nat) : Prop := ∀ h, I h → zRg h → ∀ a1 : Int, zR a1 → ∃ h2, zO_36 h X M O a1 h2 ∧ I h2
def zI_37 (I : zH → Prop) (X M O : Nat) : Prop := ∀ h, I h → zRg h → ∀ a1 a2 a3 a4 a5 : Int, zR a1 → zR a2 → zR a3 → zR a4 → zR a5 → ∃ h2, zO_37 h X M a1 a2 a3 a4 a5 h2 ∧ I h2
def zI_38 (I : zH → Prop) (X M O : Nat) : Prop := ∀ h, I h → zRg h → ∀ a1 : Int, zR a1 → ∃ h2, zO_38 h X M a1 h2 ∧ I h2
def zI_39 (I : zH → Prop) (X M O : Nat) : Prop := ∀ h, I h → zRg h → ∀ a1 : Int, zR a1 → ∃ h2, zO_39 h X M a1 h2 ∧ I h2
def zI_40 (I : zH → Prop) (X M O : Nat) : Prop := ∀ h, I h → zRg h → ∀ a1 a2 : Int, zR a1 → zR a2 → ∃ h2, zO_40 h X M a1 a2 h2 ∧ I h2
def zI_41 (I : zH → Prop) (X M O : Nat) : Prop := ∀ h, I h → zRg h → ∀ a1 : Int, zR a1 → ∃ h2, zO_41 h X M a1 h2 ∧ I h2
def zI_42 (I : zH → Prop) (X M O : Nat) : Prop := ∀ h, I h → zRg h → ∃ h2, zO_42 h X M h2 ∧ I h2
def zI_43 (I : zH → Prop) (X M O : Nat) : Prop := ∀ h, I h → zRg h → ∃ h2, zO_43 h X M h2 ∧ I h2
def zI_44 (I : zH → Prop) (X M O : Nat) : Prop := ∀ h, I h → zRg h → ∀ a1 a2 : Int, zR a1 → zR a2 → ∃ h2, zO_44 h X M O a1 a2 h2 ∧ I h2
def zI_45 (I : zH → Prop) (X M O : Nat) : Prop := ∀ h, I h → zRg h → ∀ a1 a2 : Int, zR a1 → zR a2 → ∃ h2, zO_45 h X M O a1 a2 h2 ∧ I h2
def zI_46 (I : zH → Prop) (X M O : Nat) : Prop := ∀ h, I h → zRg h → ∀ a1 : Int, zR a1 → ∃ h2, zO_46 h X M O a1 h2 ∧ I h2
def zI_47 (I : zH → Prop) (X M O : Nat) : Prop := ∀ h, I h → zRg h → ∃ h2, zO_47 h X M h2 ∧ I h2
def zI_48 (I : zH → Prop) (X M O : Nat) : Prop := ∀ h, I h → zRg h → ∀ a1 : Int, zR a1 → ∃ h2, zO_48 h X M O a1 h2 ∧ I h2
def zI_49 (I : zH → Prop) (X M O : Nat) : Prop := ∀ h, I h → zRg h → ∀ a1 a2 : Int, zR a1 → zR a2 → ∃ h2, zO_49 h X M O a1 a2 h2 ∧ I h2
def zI_50 (I : zH → Prop) (X M O : Nat) : Prop := ∀ h, I h → zRg h → ∀ a1 a2 : Int, zR a1 → zR a2 → ∃ h2, zO_50 h X M O a1 a2 h2 ∧ I h2
def zI_51 (I : zH → Prop) (X M O : Nat) : Prop := ∀ h, I h → zRg h → ∀ a1 : Int, zR a1 → ∃ h2, zO_51 h X M O a1 h2 ∧ I h2
def zI_52 (I : zH → Prop) (X M O : Nat) : Prop := ∀ h, I h → zRg h → ∃ h2, zO_52 h X M h2 ∧ I h2
def zI_53 (I : zH → Prop) (X M O : Nat) : Prop := ∀ h, I h → zRg h → ∀ a1 : Int, zR a1 → ∃ h2, zO_53 h X M O a1 h2 ∧ I h2
def zI_54 (I : zH → Prop) (X M O : Nat) : Prop := ∀ h, I h → zRg h → ∀ a1 : Int, zR a1 → ∃ h2, zO_54 h X M O a1 h2 ∧ I h2
/-- every operation keeps I, and its answers agree -/
def zAll (I : zH → Prop) (X M O : Nat) : Prop := zI_0 I X M O ∧ zI_1 I X M O ∧ zI_2 I X M O ∧ zI_3 I X M O ∧ zI_4 I X M O ∧ zI_5 I X M O ∧ zI_6 I X M O ∧ zI_7 I X M O ∧ zI_8 I X M O ∧ zI_9 I X M O ∧ zI_10 I X M O ∧ zI_11 I X M O ∧ zI_12 I X M O ∧ zI_13 I X M O ∧ zI_14 I X M O ∧ zI_15 I X M O ∧ zI_16 I X M O ∧ zI_17 I X M O ∧ zI_18 I X M O ∧ zI_19 I X M O ∧ zI_20 I X M O ∧ zI_21 I X M O ∧ zI_22 I X M O ∧ zI_23 I X M O ∧ zI_24 I X M O ∧ zI_25 I X M O ∧ zI_26 I X M O ∧ zI_27 I X M O ∧ zI_28 I X M O ∧ zI_29 I X M O ∧ zI_30 I X M O ∧ zI_31 I X M O ∧ zI_32 I X M O ∧ zI_33 I X M O ∧ zI_34 I X M O ∧ zI_35 I X M O ∧ zI_36 I X M O ∧ zI_37 I X M O ∧ zI_38 I X M O ∧ zI_39 I X M O ∧ zI_40 I X M O ∧ zI_41 I X M O ∧ zI_42 I X M O ∧ zI_43 I X M O ∧ zI_44 I X M O ∧ zI_45 I X M O ∧ zI_46 I X M O ∧ zI_47 I X M O ∧ zI_48 I X M O ∧ zI_49 I X M O ∧ zI_50 I X M O ∧ zI_51 I X M O ∧ zI_52 I X M O ∧ zI_53 I X M O ∧ zI_54 I X M O
section LC
variable {w : zW} {p : Program} {l : Launch} {e : Env} {s : State} {m : MethodId} {args : Array Value} {below : List Frame} {meth : Method} {c : Code} {cells slots : Nat} {Q : State → Prop} {xs : Nat → Int32} {b L i X M O : Nat} {h h2 : zH}

theorem law_case (C : zC w p s m args c 7 cL_law RL) (hl0 : l.stackTraces = false) (S : zScr w s xs b L) (hi : i + 6 ≤ L) (hcs : cells + 1 ≤ 601024 ∧ slots + 6 ≤ 7293033) {I : zH → Prop} (hI : zAll I X M O) (hh : I h) {x : Int} (kk : ∀ h2, I h2 → zV w p l e room_1 s m args below meth c 7 (cells + 1) (slots + 6) Q 2686 (zloc b X M O i) [] h2) : zV w p l e room_1 s m args below meth c 7 cells slots Q 40 (zloc b X M O i) [.inl x] h := by
  refine v_rng fun hrg _ _ _ => ?_
  obtain ⟨i0, i1, i2, i3, i4, i5, i6, i7, i8, i9, i10, i11, i12, i13, i14, i15, i16, i17, i18, i19, i20, i21, i22, i23, i24, i25, i26, i27, i28, i29, i30, i31, i32, i33, i34, i35, i36, i37, i38, i39, i40, i41, i42, i43, i44, i45, i46, i47, i48, i49, i50, i51, i52, i53, i54⟩ := hI
  by_cases hx : 0 ≤ x ∧ x < 55
  · obtain ⟨k, rfl⟩ := Int.eq_ofNat_of_zero_le hx.1
    have hk : k < 55 := by omega
    match k, hk with
    | 0, _ =>
      obtain ⟨h2, g, g2⟩ := i0 h hh hrg (sx xs (i + 1)) (sx xs (i + 2)) (sx xs (i + 3)) (sx xs (i + 4)) (sx xs (i + 5)) (zR_of _) (zR_of _) (zR_of _) (zR_of _) (zR_of _)
      exact v_tabIn C (k := 0) dL_law_40 rfl (by decide) rfl (by decide) (lc_0 C S hi hcs g (kk h2 g2))
    | 1, _ =>
      obtain ⟨h2, g, g2⟩ := i1 h hh hrg (sx xs (i + 1)) (zR_of _)
      exact v_tabIn C (k := 1) dL_law_40 rfl (by decide) rfl (by decide) (lc_1 C S hi hcs g (kk h2 g2))
    | 2, _ =>
      obtain ⟨h2, g, g2⟩ := i2 h hh hrg
      exact v_tabIn C (k := 2) dL_law_40 rfl (by decide) rfl (by decide) (lc_2 C S hi hcs g (kk h2 g2))
    | 3, _ =>
      obtain ⟨h2, g, g2⟩ := i3 h hh hrg
      exact v_tabIn C (k := 3) dL_law_40 rfl (by decide) rfl (by decide) (lc_3 C S hi hcs g (kk h2 g2))
    | 4, _ =>
      obtain ⟨h2, g, g2⟩ := i4 h hh hrg
      exact v_tabIn C (k := 4) dL_law_40 rfl (by decide) rfl (by decide) (lc_4 C S hi hcs g (kk h2 g2))
    | 5, _ =>
      obtain ⟨h2, g, g2⟩ := i5 h hh hrg
      exact v_tabIn C (k := 5) dL_law_40 rfl (by decide) rfl (by decide) (lc_5 C S hi hcs g (kk h2 g2))
    | 6, _ =>
      obtain ⟨h2, g, g2⟩ := i6 h hh hrg
      exact v_tabIn C (k := 6) dL_law_40 rfl (by decide) rfl (by decide) (lc_6 C S hi hcs g (kk h2 g2))
    | 7, _ =>
      obtain ⟨h2, g, g2⟩ := i7 h hh hrg (sx xs (i + 1)) (zR_of _)
      exact v_tabIn C (k := 7) dL_law_40 rfl (by decide) rfl (by decide) (lc_7 C S hi hcs g (kk h2 g2))
    | 8, _ =>
      obtain ⟨h2, g, g2⟩ := i8 h hh hrg
      exact v_tabIn C (k := 8) dL_law_40 rfl (by decide) rfl (by decide) (lc_8 C S hi hcs g (kk h2 g2))
    | 9, _ =>
      obtain ⟨h2, g, g2⟩ := i9 h hh hrg (sx xs (i + 1)) (zR_of _)
      exact v_tabIn C (k := 9) dL_law_40 rfl (by decide) rfl (by decide) (lc_9 C S hi hcs g (kk h2 g2))
    | 10, _ =>
      obtain ⟨h2, g, g2⟩ := i10 h hh hrg (sx xs (i + 1)) (sx xs (i + 2)) (zR_of _) (zR_of _)
      exact v_tabIn C (k := 10) dL_law_40 rfl (by decide) rfl (by decide) (lc_10 C hl0 S hi hcs g (kk h2 g2))
    | 11, _ =>
      obtain ⟨h2, g, g2⟩ := i11 h hh hrg (sx xs (i + 1)) (zR_of _)
      exact v_tabIn C (k := 11) dL_law_40 rfl (by decide) rfl (by decide) (lc_11 C hl0 S hi hcs g (kk h2 g2))
    | 12, _ =>
      obtain ⟨h2, g, g2⟩ := i12 h hh hrg (sx xs (i + 1)) (zR_of _)
      exact v_tabIn C (k := 12) dL_law_40 rfl (by decide) rfl (by decide) (lc_12 C hl0 S hi hcs g (kk h2 g2))
    | 13, _ =>
      obtain ⟨h2, g, g2⟩ := i13 h hh hrg (sx xs (i + 1)) (zR_of _)
      exact v_tabIn C (k := 13) dL_law_40 rfl (by decide) rfl (by decide) (lc_13 C hl0 S hi hcs g (kk h2 g2))
    | 14, _ =>
      obtain ⟨h2, g, g2⟩ := i14 h hh hrg (sx xs (i + 1)) (zR_of _)
      exact v_tabIn C (k := 14) dL_law_40 rfl (by decide) rfl (by decide) (lc_14 C hl0 S hi hcs g (kk h2 g2))
    | 15, _ =>
      obtain ⟨h2, g, g2⟩ := i15 h hh hrg (sx xs (i + 1)) (zR_of _)
      exact v_tabIn C (k := 15) dL_law_40 rfl (by decide) rfl (by decide) (lc_15 C hl0 S hi hcs g (kk h2 g2))
    | 16, _ =>
      obtain ⟨h2, g, g2⟩ := i16 h hh hrg (sx xs (i + 1)) (zR_of _)
      exact v_tabIn C (k := 16) dL_law_40 rfl (by decide) rfl (by decide) (lc_16 C hl0 S hi hcs g (kk h2 g2))
    | 17, _ =>
      obtain ⟨h2, g, g2⟩ := i17 h hh hrg (sx xs (i + 1)) (zR_of _)
      exact v_tabIn C (k := 17) dL_law_40 rfl (by decide) rfl (by decide) (lc_17 C hl0 S hi hcs g (kk h2 g2))
    | 18, _ =>
      obtain ⟨h2, g, g2⟩ := i18 h hh hrg (sx xs (i + 1)) (zR_of _)
      exact v_tabIn C (k := 18) dL_law_40 rfl (by decide) rfl (by decide) (lc_18 C hl0 S hi hcs g (kk h2 g2))
    | 19, _ =>
      obtain ⟨h2, g, g2⟩ := i19 h hh hrg (sx xs (i + 1)) (zR_of _)
      exact v_tabIn C (k := 19) dL_law_40 rfl (by decide) rfl (by decide) (lc_19 C hl0 S hi hcs g (kk h2 g2))
    | 20, _ =>
      obtain ⟨h2, g, g2⟩ := i20 h hh hrg (sx xs (i + 1)) (zR_of _)
      exact v_tabIn C (k := 20) dL_law_40 rfl (by decide) rfl (by decide) (lc_20 C hl0 S hi hcs g (kk h2 g2))
    | 21, _ =>
      obtain ⟨h2, g, g2⟩ := i21 h hh hrg (sx xs (i + 1)) (zR_of _)
      exact v_tabIn C (k := 21) dL_law_40 rfl (by decide) rfl (by decide) (lc_21 C hl0 S hi hcs g (kk h2 g2))
    | 22, _ =>
      obtain ⟨h2, g, g2⟩ := i22 h hh hrg (sx xs (i + 1)) (zR_of _)
      exact v_tabIn C (k := 22) dL_law_40 rfl (by decide) rfl (by decide) (lc_22 C hl0 S hi hcs g (kk h2 g2))
    | 23, _ =>
      obtain ⟨h2, g, g2⟩ := i23 h hh hrg (sx xs (i + 1)) (zR_of _)
      exact v_tabIn C (k := 23) dL_law_40 rfl (by decide) rfl (by decide) (lc_23 C hl0 S hi hcs g (kk h2 g2))
    | 24, _ =>
      obtain ⟨h2, g, g2⟩ := i24 h hh hrg (sx xs (i + 1)) (zR_of _)
      exact v_tabIn C (k := 24) dL_law_40 rfl (by decide) rfl (by decide) (lc_24 C hl0 S hi hcs g (kk h2 g2))
    | 25, _ =>
      obtain ⟨h2, g, g2⟩ := i25 h hh hrg (sx xs (i + 1)) (zR_of _)
      exact v_tabIn C (k := 25) dL_law_40 rfl (by decide) rfl (by decide) (lc_25 C hl0 S hi hcs g (kk h2 g2))
    | 26, _ =>
      obtain ⟨h2, g, g2⟩ := i26 h hh hrg (sx xs (i + 1)) (zR_of _)
      exact v_tabIn C (k := 26) dL_law_40 rfl (by decide) rfl (by decide) (lc_26 C S hi hcs g (kk h2 g2))
    | 27, _ =>
      obtain ⟨h2, g, g2⟩ := i27 h hh hrg
      exact v_tabIn C (k := 27) dL_law_40 rfl (by decide) rfl (by decide) (lc_27 C S hi hcs g (kk h2 g2))
    | 28, _ =>
      obtain ⟨h2, g, g2⟩ := i28 h hh hrg (sx xs (i + 1)) (zR_of _)
      exact v_tabIn C (k := 28) dL_law_40 rfl (by decide) rfl (by decide) (lc_28 C hl0 S hi hcs g (kk h2 g2))
    | 29, _ =>
      obtain ⟨h2, g, g2⟩ := i29 h hh hrg (sx xs (i + 1)) (zR_of _)
      exact v_tabIn C (k := 29) dL_law_40 rfl (by decide) rfl (by decide) (lc_29 C hl0 S hi hcs g (kk h2 g2))
    | 30, _ =>
      obtain ⟨h2, g, g2⟩ := i30 h hh hrg (sx xs (i + 1)) (sx xs (i + 2)) (zR_of _) (zR_of _)
      exact v_tabIn C (k := 30) dL_law_40 rfl (by decide) rfl (by decide) (lc_30 C hl0 S hi hcs g (kk h2 g2))
    | 31, _ =>
      obtain ⟨h2, g, g2⟩ := i31 h hh hrg (sx xs (i + 1)) (zR_of _)
      exact v_tabIn C (k := 31) dL_law_40 rfl (by decide) rfl (by decide) (lc_31 C hl0 S hi hcs g (kk h2 g2))
    | 32, _ =>
      obtain ⟨h2, g, g2⟩ := i32 h hh hrg
      exact v_tabIn C (k := 32) dL_law_40 rfl (by decide) rfl (by decide) (lc_32 C S hi hcs g (kk h2 g2))
    | 33, _ =>
      obtain ⟨h2, g, g2⟩ := i33 h hh hrg (sx xs (i + 1)) (sx xs (i + 2)) (zR_of _) (zR_of _)
      exact v_tabIn C (k := 33) dL_law_40 rfl (by decide) rfl (by decide) (lc_33 C hl0 S hi hcs g (kk h2 g2))
    | 34, _ =>
      obtain ⟨h2, g, g2⟩ := i34 h hh hrg (sx xs (i + 1)) (zR_of _)
      exact v_tabIn C (k := 34) dL_law_40 rfl (by decide) rfl (by decide) (lc_34 C hl0 S hi hcs g (kk h2 g2))
    | 35, _ =>
      obtain ⟨h2, g, g2⟩ := i35 h hh hrg
      exact v_tabIn C (k := 35) dL_law_40 rfl (by decide) rfl (by decide) (lc_35 C S hi hcs g (kk h2 g2))
    | 36, _ =>
      obtain ⟨h2, g, g2⟩ := i36 h hh hrg (sx xs (i + 1)) (zR_of _)
      exact v_tabIn C (k := 36) dL_law_40 rfl (by decide) rfl (by decide) (lc_36 C hl0 S hi hcs g (kk h2 g2))
    | 37, _ =>
      obtain ⟨h2, g, g2⟩ := i37 h hh hrg (sx xs (i + 1)) (sx xs (i + 2)) (sx xs (i + 3)) (sx xs (i + 4)) (sx xs (i + 5)) (zR_of _) (zR_of _) (zR_of _) (zR_of _) (zR_of _)
      exact v_tabIn C (k := 37) dL_law_40 rfl (by decide) rfl (by decide) (lc_37 C S hi hcs g (kk h2 g2))
    | 38, _ =>
      obtain ⟨h2, g, g2⟩ := i38 h hh hrg (sx xs (i + 1)) (zR_of _)
      exact v_tabIn C (k := 38) dL_law_40 rfl (by decide) rfl (by decide) (lc_38 C S hi hcs g (kk h2 g2))
    | 39, _ =>
      obtain ⟨h2, g, g2⟩ := i39 h hh hrg (sx xs (i + 1)) (zR_of _)
      exact v_tabIn C (k := 39) dL_law_40 rfl (by decide) rfl (by decide) (lc_39 C S hi hcs g (kk h2 g2))
    | 40, _ =>
      obtain ⟨h2, g, g2⟩ := i40 h hh hrg (sx xs (i + 1)) (sx xs (i + 2)) (zR_of _) (zR_of _)
      exact v_tabIn C (k := 40) dL_law_40 rfl (by decide) rfl (by decide) (lc_40 C S hi hcs g (kk h2 g2))
    | 41, _ =>
      obtain ⟨h2, g, g2⟩ := i41 h hh hrg (sx xs (i + 1)) (zR_of _)
      exact v_tabIn C (k := 41) dL_law_40 rfl (by decide) rfl (by decide) (lc_41 C S hi hcs g (kk h2 g2))
    | 42, _ =>
      obtain ⟨h2, g, g2⟩ := i42 h hh hrg
      exact v_tabIn C (k := 42) dL_law_40 rfl (by decide) rfl (by decide) (lc_42 C S hi hcs g (kk h2 g2))
    | 43, _ =>
      obtain ⟨h2, g, g2⟩ := i43 h hh hrg
      exact v_tabIn C (k := 43) dL_law_40 rfl (by decide) rfl (by decide) (lc_43 C S hi hcs g (kk h2 g2))
    | 44, _ =>
      obtain ⟨h2, g, g2⟩ := i44 h hh hrg (sx xs (i + 1)) (sx xs (i + 2)) (zR_of _) (zR_of _)
      exact v_tabIn C (k := 44) dL_law_40 rfl (by decide) rfl (by decide) (lc_44 C hl0 S hi hcs g (kk h2 g2))
    | 45, _ =>
      obtain ⟨h2, g, g2⟩ := i45 h hh hrg (sx xs (i + 1)) (sx xs (i + 2)) (zR_of _) (zR_of _)
      exact v_tabIn C (k := 45) dL_law_40 rfl (by decide) rfl (by decide) (lc_45 C hl0 S hi hcs g (kk h2 g2))
    | 46, _ =>
      obtain ⟨h2, g, g2⟩ := i46 h hh hrg (sx xs (i + 1)) (zR_of _)
      exact v_tabIn C (k := 46) dL_law_40 rfl (by decide) rfl (by decide) (lc_46 C hl0 S hi hcs g (kk h2 g2))
    | 47, _ =>
      obtain ⟨h2, g, g2⟩ := i47 h hh hrg
      exact v_tabIn C (k := 47) dL_law_40 rfl (by decide) rfl (by decide) (lc_47 C S hi hcs g (kk h2 g2))
    | 48, _ =>
      obtain ⟨h2, g, g2⟩ := i48 h hh hrg (sx xs (i + 1)) (zR_of _)
      exact v_tabIn C (k := 48) dL_law_40 rfl (by decide) rfl (by decide) (lc_48 C hl0 S hi hcs g (kk h2 g2))
    | 49, _ =>
      obtain ⟨h2, g, g2⟩ := i49 h hh hrg (sx xs (i + 1)) (sx xs (i + 2)) (zR_of _) (zR_of _)
      exact v_tabIn C (k := 49) dL_law_40 rfl (by decide) rfl (by decide) (lc_49 C hl0 S hi hcs g (kk h2 g2))
    | 50, _ =>
      obtain ⟨h2, g, g2⟩ := i50 h hh hrg (sx xs (i + 1)) (sx xs (i + 2)) (zR_of _) (zR_of _)
      exact v_tabIn C (k := 50) dL_law_40 rfl (by decide) rfl (by decide) (lc_50 C hl0 S hi hcs g (kk h2 g2))
    | 51, _ =>
      obtain ⟨h2, g, g2⟩ := i51 h hh hrg (sx xs (i + 1)) (zR_of _)
      exact v_tabIn C (k := 51) dL_law_40 rfl (by decide) rfl (by decide) (lc_51 C hl0 S hi hcs g (kk h2 g2))
    | 52, _ =>
      obtain ⟨h2, g, g2⟩ := i52 h hh hrg
      exact v_tabIn C (k := 52) dL_law_40 rfl (by decide) rfl (by decide) (lc_52 C S hi hcs g (kk h2 g2))
    | 53, _ =>
      obtain ⟨h2, g, g2⟩ := i53 h hh hrg (sx xs (i + 1)) (zR_of _)
      exact v_tabIn C (k := 53) dL_law_40 rfl (by decide) rfl (by decide) (lc_53 C hl0 S hi hcs g (kk h2 g2))
    | 54, _ =>
      obtain ⟨h2, g, g2⟩ := i54 h hh hrg (sx xs (i + 1)) (zR_of _)
      exact v_tabIn C (k := 54) dL_law_40 rfl (by decide) rfl (by decide) (lc_54 C hl0 S hi hcs g (kk h2 g2))
    | k + 55, hk => exact absurd hk (by omega)
  · exact v_tabOut C dL_law_40 (by omega) (tgt := 2686) (by decide) (v_more (Nat.le_succ _) (Nat.le_add_right _ 6) (kk h hh))
theorem law_loop (C : zC w p s m args c 7 cL_law RL) (hl0 : l.stackTraces = false) (S : zScr w s xs b L) {I : zH → Prop} (hI : zAll I X M O)
    (fin : ∀ (cells slots i : Nat) (h : zH), cells ≤ 601024 → slots ≤ 7293033 → zV w p l e room_1 s m args below meth c 7 cells slots Q 2692 (zloc b X M O i) [] h) :
    ∀ (n i cells slots : Nat) (h : zH), L - i ≤ n → i ≤ L → cells + (L - i) ≤ 601024 → slots + 6 * (L - i) ≤ 7293033 → I h → zV w p l e room_1 s m args below meth c 7 cells slots Q 23 (zloc b X M O i) [] h := by
  have hL : L ≤ 3072 := S.2.2.2
  intro n
  induction n with
  | zero =>
    intro i cells slots h h1 h2 h3 h4 hh
    refine v_iload C dL_law_23 rfl ?_
    refine v_aload_n C dL_law_25 rfl ?_
    refine v_slen C S dL_law_26 ?_
    refine v_bipush C dL_law_27 (by decide) rfl ?_
    refine v_isub C dL_law_29 ?_
    refine v_icmp_gt C dL_law_30 (tgt := 2692) (by decide) (fun _ => fin _ _ _ _ (by omega) (by omega)) (fun z => absurd ?_ z)
    rw [zw_id ⟨by omega, by omega⟩]
    omega
  | succ n ih =>
    intro i cells slots h h1 h2 h3 h4 hh
    refine v_iload C dL_law_23 rfl ?_
    refine v_aload_n C dL_law_25 rfl ?_
    refine v_slen C S dL_law_26 ?_
    refine v_bipush C dL_law_27 (by decide) rfl ?_
    refine v_isub C dL_law_29 ?_
    refine v_icmp_gt C dL_law_30 (tgt := 2692) (by decide) (fun _ => fin _ _ _ _ (by omega) (by omega)) (fun z => ?_)
    rw [zw_id ⟨by omega, by omega⟩] at z
    have hi : i + 6 ≤ L := by omega
    refine v_aload_n C dL_law_33 rfl ?_
    refine v_iload C dL_law_34 rfl ?_
    refine v_sld C S (by omega) rfl dL_law_36 ?_
    refine v_bipush C dL_law_37 (by decide) rfl ?_
    refine v_iand C dL_law_39 ?_
    refine law_case C hl0 S hi ⟨by omega, by omega⟩ hI hh (fun h2 g2 => ?_)
    refine v_iinc C dL_law_2686 rfl (by decide) ?_
    refine v_goto C dL_law_2689 (tgt := 23) (by decide) ?_
    have e1 : zw ((i : Int) + 6) = ((i + 6 : Nat) : Int) := by rw [zw_id ⟨by omega, by omega⟩]; omega
    rw [e1]
    exact ih (i + 6) (cells + 1) (slots + 6) h2 (by omega) hi (by omega) (by omega) g2
end LC
