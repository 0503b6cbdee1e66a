/-! The law's exchange, whole. -/
def yUp (B : Nat) : Nat → Prop := fun q => q < B + 541
set_option maxRecDepth 4096 in
theorem z7_mem {w : zW} {B a : Nat} : a ∈ zwL (z7 w B (yUp B)) ↔ zA (z7 w B (yUp B)) a := by
  constructor
  · intro h
    obtain ⟨i, hi, he⟩ := List.mem_map.mp h
    rw [List.mem_range] at hi
    have he' : B + i = a := he
    exact ⟨show B ≤ a by omega, show a < B + 541 by omega⟩
  · intro h
    have h1 : B ≤ a := h.1
    have h2 : a < B + 541 := h.2
    exact List.mem_map.mpr ⟨a - B, List.mem_range.mpr (by omega), show B + (a - B) = a by omega⟩
theorem z7_pool {w we : zW} {B : Nat} {s0 : State} (hD : zwD w = zwD we ∧ zwA w = zwA we ∧ (∀ i, i ≠ 31 → i ≠ 71 → zwS w i = zwS we i) ∧ zwN w = zwN we ∧ zwX w = zwX we) (hs : yKn we s0) (hs0 : s0.heap.size = B) (hA : ∀ q, B ≤ q → yUp B q → zA w q) : yPool w (z7 we B (yUp B)) B := by
  refine ⟨hD.1.symm, fun U hU h => z7_Kn hD hs hs0 hA (Nat.le_of_lt hU) h, fun q hq => hA q hq.1 hq.2, fun a => z7_mem, fun a h => z7_mem.mpr ?_, ?_⟩
  · have := g_own (z7_W (w := we) (B := B) (Up := yUp B)) h
    exact ⟨this.1, this.2⟩
  · show (if B ≤ B then gK (B - B) else 31) = 8
    rw [if_pos (Nat.le_refl _), Nat.sub_self]
    rfl
/-- .. the heap at the start told -/
theorem yCt.ofG {w : zW} {l : Launch} {y : MethodName} {b : ByteArray} {n : Nat} {ret : Option FieldType} {fr lo mc ms : Nat} {av : List zv} {G : Heap → Prop} {post : Option zv → (Heap → Prop) → Prop} {own : String} {loc : List (Option zv)}
    (hy : plainFor y = true) (ho : y.cls = own) (hn : av.length ≤ n) (hloc : ∀ (k : Nat) (v : zv), loc[k]? = some (some v) → av[k]? = some v)
    (body : ∀ p e s m args below meth c, zC w p s m args c n b own → yX w s s.heap → meth.sig.returnType = ret → meth.locks = false → meth.name = y.name → (∀ q, s.heap.size ≤ q → zA w q) → G s.heap → yS w p l e (zRmi fr lo mc ms) s m args below meth c n 0 0 (MQ below (yQ w post) args s mc ms (zA w)) 0 loc [] G) : yCt w l y b n ret fr lo mc ms av G post := by
  intro hok
  refine va_MetF (cc := b) (maxL := n) (ret := ret) hy rfl ?_
  intro p e s m args below meth c s₁ B hml hv
  obtain ⟨rfl, hK, hN, hR⟩ := hv
  have hts := atoms_spec (ws := Cond.code y b n ret :: zw_T) B.pre
  have hown : s.vm.findClass own = some m.cls := by rw [← ho]; exact findClass_of_methodNamed B.named
  have C : zC w p s m (av.map zval).toArray c n b own := ⟨B.exec, B.bytes, hml, hown, fun x hx => hts x (List.mem_cons_of_mem _ hx), hK.1⟩
  have hlen : (lg_sl (av.map zval)).length ≤ n := by rw [lv_args_len]; exact hn
  have hl := lv_entry (av.map zval) (n := n) hlen
  rw [lg_entry_eq]
  generalize (lg_sl (av.map zval) ++ List.replicate (n - (lg_sl (av.map zval)).length) Slot.unset).toArray = ls at hl ⊢
  rw [zlo_args] at hl
  have hav : ∀ (k : Nat) (v : zv), loc[k]? = some (some v) → (av.map some)[k]? = some (some v) := fun k v hk => by rw [List.getElem?_map, hloc k v hk]; rfl
  refine body p e s m _ below meth c C hK.2 B.returns B.notSynchronized (name_of_methodNamed B.named B.method).1 hN hR s.heap [] ls hR va_S.rf (zlo_sub hl fun q hq => ?_) (fun v hv => by cases hv) (fun v hv => ?_)
  · obtain ⟨k, v, h1, h2⟩ := zlo_mem.mp hq
    exact zlo_mem.mpr ⟨k, v, hav k v h1, h2⟩
  · obtain ⟨k, hk2⟩ := List.getElem?_of_mem hv
    exact hok v (List.mem_of_getElem? (hloc k v hk2))
/-- the region that put may write -/
def yU4 (B N : Nat) : Nat → Prop := fun a => (B ≤ a ∧ a < B + 541) ∨ N ≤ a
theorem c_L_exchange (w : zW) (l : Launch) {B : Nat} (hA : ∀ q, zA w q ↔ B ≤ q) (hs : Nat → zH) (h2 : zH) (h0 : hs 0 = gB B) (hF : ∀ j, 20 * (j + 1) ≤ (padT (tTxt w)).length → pFeed B (padT (tTxt w)) (20 * j) (hs j) (hs (j + 1))) (hload : q_X7_load (hs ((padT (tTxt w)).length / 20)) B ((tTxt w).length : Int) = some (((nSm (tTxt w) (tTxt w).length : Nat) : Int), h2)) : yCt w l yL_exchange cL_exchange 3 (some (.object "SatelliteExchange")) 11 340 1041 810020 [.inr (30, zwS w 30)] (fun H => H.size = B) (fun r G1 => r = some (.inr (7, B)) ∧ zTy (z7 w B (yUp B)) h2 ∧ zRg h2 ∧ G1 = yL w (PL (z7 w B (yUp B)) h2)) := by
  refine yCt.ofG (own := RL) (loc := [some (.inr (30, zwS w 30)), none, none]) (by decide +kernel) rfl (Nat.le_of_ble_eq_true rfl) (fun k v hk => ?_) ?_
  · exact zloc_ok 2 rfl hk
  intro p e s m9 args below meth c C hX Z1 Z2 Z3 hN hsz
  refine X_new (Up := yUp B) C hX hsz hA ⟨Nat.le_of_ble_eq_true rfl, Nat.le_of_ble_eq_true rfl⟩ ⟨Nat.le_of_ble_eq_true rfl, Nat.le_of_ble_eq_true rfl⟩ ?_
  generalize hwp : z7 w B (yUp B) = wp
  have hP : yPool w wp B := by rw [← hwp]; exact z7_pool ⟨rfl, rfl, fun _ _ _ => rfl, rfl, rfl⟩ ⟨C.2.2.2.2.2, hX⟩ hsz (fun q hq _ => (hA q).mpr hq)
  have hTy0 : zTy wp (hs 0) := by rw [← hwp, h0]; exact g_Ty z7_W rfl
  have hRg0 : zRg (hs 0) := by rw [h0]; exact g_Rg B
  rw [← h0]
  refine y_astore_n C dL_exchange_7 (by decide) ?_
  refine y_aload_n C dL_exchange_8 rfl ?_
  refine y_size fun N hN1 => ?_
  have hA1 : ∀ a, zA (zPu w (yU1 N)) a → zA w a := fun a ha => hN a (Nat.le_trans hN1 (zPu_A.mp ha))
  refine y_callS (wc := zPu w (yU1 N)) (k := 1) (As := [.inr (30, zwS w 30)]) (rest := []) (Gc := yL (zPu w (yU1 N)) []) C dL_exchange_9 msL_125 hA1 (c_L_text (zPu w (yU1 N)) l) (fun H locs hG hS U hU hW => ⟨?_, ?_, ?_⟩) rfl ⟨Nat.le_of_ble_eq_true rfl, Nat.le_of_ble_eq_true rfl⟩ ⟨by show _ ≤ 1041; omega, by show _ ≤ 810020; omega⟩ ⟨rfl, Nat.le_of_ble_eq_true rfl⟩ (fun r G1 hp => ?_)
  · exact zPu_Kn (fun a ha => hN a (Nat.le_trans hN1 ha)) (yKn.warm hW hS hU ⟨C.2.2.2.2.2, hX⟩)
  · intro a ha
    exact zPu_A.mpr (show N ≤ a by rw [← hG.2, ← hU]; exact ha)
  · exact ⟨fun k q h => by simp at h, fun i j p q h => by simp at h, fun k q h => by simp at h⟩
  obtain ⟨q, qa, g, rfl, rfl, hl9, hg⟩ := hp
  have hTok : yOk (tTxt w) := tCa_ok (w := w) (by have := (l_calls (w := w) (h := zH0)).2; omega)
  have hl9 : (tTxt w).length ≤ 900 := hl9
  refine y_to (G' := yL w (yStr w q qa (tTxt w).length g ++ PL wp (hs 0))) (fun H1 h => ?_) ?_
  · obtain ⟨h1, H0, hG0, hsz1, hk⟩ := h
    exact yL_join (wc := zPu w (yU1 N)) (w := w) rfl hG0.1 hG0.1.2 (fun k q hq => ⟨⟨k, hq⟩, fun z => by
      have := (hG0.1.1 k q hq).lt
      rw [hG0.2] at this
      exact absurd (zPu_A.mp z) (Nat.not_le.mpr this)⟩) hA1 (yL_left h1) hk
  have hg : yHs (tTxt w) g := hg
  have hpd : ∀ h9 : zH, yProv w s (yStr w q qa (tTxt w).length g ++ PL wp h9) q qa (tTxt w) := fun h9 => yProv_dyn C rfl hg
  refine y_astore_n C dL_exchange_12 (by decide) ?_
  refine y_aload_n C dL_exchange_13 rfl ?_
  refine y_aload_n C dL_exchange_14 rfl ?_
  refine y_kind (k' := 30) ?_
  refine y_size fun N2 hN2 => ?_
  have hAu : ∀ a, yU4 B N2 a → zA w a := fun a ha => by
    rcases ha with h | h
    · exact (hA a).mpr h.1
    · exact hN a (Nat.le_trans hN2 h)
  have hA2 : ∀ a, zA (zPt w (yU4 B N2) q qa (tTxt w)) a → zA w a := fun a ha => hAu a (zPt_A.mp ha)
  have hPp : yPool (zPt w (yU4 B N2) q qa (tTxt w)) wp B := by
    rw [← hwp]
    refine z7_pool ⟨rfl, rfl, fun i g1 g2 => ?_, rfl, rfl⟩ ⟨C.2.2.2.2.2, hX⟩ hsz (fun a ha hu => zPt_A.mpr (Or.inl ⟨ha, hu⟩))
    show (if i = 31 then q else if i = 71 then qa else zwS w i) = _
    rw [if_neg g1, if_neg g2]
  have hpl := padT_len (t := tTxt w)
  have hnot : ∀ {H : Heap} {k : Nat} {x : Nat × va_E}, yL w (yStr w q qa (tTxt w).length g ++ PL wp (hs 0)) H → H.size = N2 → (yStr w q qa (tTxt w).length g)[k]? = some x → ¬ yU4 B N2 x.1 := fun {H k x} hG hs2 hk z => by
    have hlt := (List.getElem?_eq_some_iff.mp hk).1
    have hk2 : (yStr w q qa (tTxt w).length g ++ PL wp (hs 0))[k]? = some x := by rw [List.getElem?_append_left hlt]; exact hk
    rcases z with z | z
    · have hm9 : x.1 ∈ zwL wp := by rw [← hwp]; exact z7_mem.mpr ⟨z.1, z.2⟩
      obtain ⟨j, hj⟩ := List.getElem?_of_mem (List.mem_map.mpr ⟨x.1, hm9, rfl⟩ : (x.1, zE wp (hs 0) x.1) ∈ PL wp (hs 0))
      have := hG.2.1 k ((yStr w q qa (tTxt w).length g).length + j) x (x.1, zE wp (hs 0) x.1) hk2 (by rw [List.getElem?_append_right (Nat.le_add_right _ _), Nat.add_sub_cancel_left]; exact hj) rfl
      omega
    · have := (hG.1 k x hk2).lt
      rw [hs2] at this
      exact absurd z (Nat.not_le.mpr this)
  refine y_callS (wc := zPt w (yU4 B N2) q qa (tTxt w)) (k := 2) (As := [.inr (7, B), .inr (30, q)]) (rest := []) (Gc := yL (zPt w (yU4 B N2) q qa (tTxt w)) (PL wp (hs 0))) C dL_exchange_15 msL_129 hA2 (c_L_put (zPt w (yU4 B N2) q qa (tTxt w)) l hPp hs hTy0 hRg0 (show (tTxt w).length ≤ 1000 by omega) hF) (fun H locs hG hS U hU hW => ⟨?_, ?_, ?_⟩) rfl ⟨Nat.le_of_ble_eq_true rfl, Nat.le_of_ble_eq_true rfl⟩ ⟨by show _ ≤ 1041; omega, by show _ ≤ 810020; omega⟩ ⟨rfl, Nat.le_of_ble_eq_true rfl⟩ (fun r G1 hp => ?_)
  · refine zPt_Kn hAu hTok ?_ (yKn.warm hW hS hU ⟨C.2.2.2.2.2, hX⟩)
    rw [hU]
    exact vk_S.moved hW.alike (yT_of C (i := 0) (i2 := 1) hG.1 rfl rfl hg.2 (hnot hG.1 hG.2 (k := 0) rfl) (hnot hG.1 hG.2 (k := 1) rfl))
  · intro a ha
    exact zPt_A.mpr (Or.inr (by rw [← hG.2, ← hU]; exact ha))
  · rw [hU]
    have h9 := yL_right hG.1
    refine ⟨h9.1, h9.2.1, fun k x hx => hPp.2.2.1 _ ?_⟩
    obtain ⟨a9, ha9, he9⟩ := List.mem_map.mp (List.mem_of_getElem? hx)
    rw [← he9]
    exact (hPp.2.2.2.1 a9).mp ha9
  obtain ⟨rfl, hTy, hRg, a9, rfl⟩ := hp
  have hload : q_X7_load (hs ((padT (tTxt w)).length / 20)) B ((tTxt w).length : Int) = some (((nSm (tTxt w) (tTxt w).length : Nat) : Int), h2) := hload
  have hTy : zTy wp (hs ((padT (tTxt w)).length / 20)) := hTy
  have hRg : zRg (hs ((padT (tTxt w)).length / 20)) := hRg
  refine y_to (G' := yL w (yStr w q qa (tTxt w).length g ++ PL wp (hs ((padT (tTxt w)).length / 20)))) (fun H1 h => ?_) ?_
  · obtain ⟨h1, H0, hG0, hsz1, hk⟩ := h
    have hj := yL_join (wc := zPt w (yU4 B N2) q qa (tTxt w)) (w := w) (strs := yStr w q qa (tTxt w).length g) rfl hG0.1 (yL_left hG0.1).2 (fun k x hx => ⟨⟨k, by rw [List.getElem?_append_left (List.getElem?_eq_some_iff.mp hx).1]; exact hx⟩, fun z => hnot hG0.1 hG0.2 hx (zPt_A.mp z)⟩) hA2 h1 hk
    exact yL_right (yL_swap3 (yL_swap hj))
  generalize hs ((padT (tTxt w)).length / 20) = hn at hTy hRg hload ⊢
  have hnl := nSm_le (t := tTxt w) (tTxt w).length
  refine y_aload_n C dL_exchange_18 rfl ?_
  refine y_aload_n C dL_exchange_19 rfl ?_
  refine y_to (G' := yL w ([] ++ (yStr w q qa (tTxt w).length g ++ PL wp hn))) (fun H h => h) ?_
  refine y_pureD (v := .inl (((tTxt w).length : Nat) : Int)) (k := 0) (As := []) (rest := [.inr (7, B)]) C hX (hpd hn) hTok dL_exchange_20 ⟨rfl, (zmem 766 (by decide +kernel)), (zmem 572 (by decide +kernel)), (zmem 573 (by decide +kernel)), (zmem 32 (by decide +kernel)), (zmem 574 (by decide +kernel)), ⟨by decide, by decide⟩, by decide +kernel⟩ (c_J0_lengthT _ l zH0 (show zTok (zPt w yF q qa (tTxt w)) from hTok)) (fun u hu => by cases hu) rfl ⟨Nat.le_of_ble_eq_true rfl, Nat.le_of_ble_eq_true rfl⟩ ⟨by show _ ≤ 1041; omega, by show _ ≤ 810020; omega⟩ ⟨rfl, Nat.le_of_ble_eq_true rfl⟩ (show zR _ from ⟨by omega, by omega⟩) ?_
  refine y_to (G' := yL w (yStr w q qa (tTxt w).length g ++ PL wp hn)) (fun H h => h) ?_
  refine y_callZ (v := .inl ((nSm (tTxt w) (tTxt w).length : Nat) : Int)) (k := 1) (As := [.inl (((tTxt w).length : Nat) : Int)]) (rest := []) C hX hP hTy hRg dL_exchange_23 mvL_133 (cq_X7_load wp l hn B _ _ h2 hload) (fun u hu => by simp only [List.mem_cons, List.not_mem_nil, or_false] at hu; exact ⟨_, hu⟩) rfl ⟨Nat.le_of_ble_eq_true rfl, Nat.le_of_ble_eq_true rfl⟩ ⟨by show _ ≤ 1041; omega, by show _ ≤ 810020; omega⟩ ⟨rfl, Nat.le_of_ble_eq_true rfl⟩ (show zR _ from ⟨by omega, by omega⟩) (fun hTy2 hRg2 => ?_)
  refine y_aload_n C dL_exchange_26 rfl ?_
  refine y_to (G' := yL w ([] ++ (yStr w q qa (tTxt w).length g ++ PL wp h2))) (fun H h => h) ?_
  refine y_pureDS (v := .inl ((nSm (tTxt w) (tTxt w).length : Nat) : Int)) (rest := [.inl ((nSm (tTxt w) (tTxt w).length : Nat) : Int)]) C hX (hpd h2) hTok dL_exchange_27 msL_136 (c_L_statements (zPt w yF q qa (tTxt w)) l zH0) rfl ⟨Nat.le_of_ble_eq_true rfl, Nat.le_of_ble_eq_true rfl⟩ ⟨by show _ ≤ 1041; omega, by show _ ≤ 810020; omega⟩ (Nat.le_of_ble_eq_true rfl) (show zR _ from ⟨by omega, by omega⟩) ?_
  refine y_icmp_ne C dL_exchange_30 (tgt := 37) (by decide) (fun c1 => absurd rfl c1) (fun _ => ?_)
  refine y_aload_n C dL_exchange_33 rfl ?_
  refine y_goto C dL_exchange_34 (tgt := 38) (by decide) ?_
  refine y_to (G' := yL w (PL wp h2)) (fun H h => yL_right (a := yStr w q qa (tTxt w).length g) h) ?_
  exact y_aret C Z1 (Or.inl ⟨_, rfl⟩) Z2 ⟨by show _ ≤ 1041; omega, by show _ ≤ 810020; omega⟩ dL_exchange_38 ⟨rfl, hTy2, hRg2, rfl⟩
