/-! The law's name and text. -/
/-- a station's name -/
def tNm (k : Nat) : List Int32 := [115, zi (97 + (k : Int))]
theorem yB_len : ∀ i, i < 12 → (ySB.getD i []).length ≤ 12 := by decide
theorem zi97 {k : Nat} (hk : k < 10) : 0 ≤ (97 + (k : Int)) ∧ (97 + (k : Int)) < 128 := by omega
theorem tNm_ok {k : Nat} (hk : k < 10) : yOk (tNm k) := by
  refine ⟨by decide +revert, fun x hx => ?_⟩
  simp only [tNm, List.mem_cons, List.not_mem_nil, or_false] at hx
  rcases hx with rfl | rfl
  · decide
  · rw [zi_toInt ⟨by omega, by omega⟩]
    omega
theorem c_L_name (w : zW) (l : Launch) (k : Nat) (hk : k < 10) : yCt w l yL_name cL_name 1 (some (.object "java/lang/String")) 6 260 6 7600 [.inl (k : Int)] (yL w []) (fun r G1 => ∃ (q qa : Nat) (g : Nat → Int32), r = some (.inr (9, q)) ∧ G1 = yL w (yStr w q qa 2 g ++ []) ∧ yHs (tNm k) g) := by
  refine yCt.of (own := RL) (loc := [some (.inl (k : Int))]) (by decide +kernel) rfl (Nat.le_of_ble_eq_true rfl) (fun k v hk => ?_) ?_
  · exact zloc_ok 0 rfl hk
  intro p e s m9 args below meth c C hX Z1 Z2 Z3 hN
  refine y_newSB C hX hN (zmem 464 (by decide +kernel)) (zmem 465 (by decide +kernel)) (zmem 31 (by decide +kernel)) ⟨rfl, (zmem 466 (by decide +kernel)), (zmem 467 (by decide +kernel)), (zmem 31 (by decide +kernel)), (zmem 468 (by decide +kernel)), ⟨by decide, by decide⟩, by decide +kernel⟩ dL_name_0 dL_name_3 dL_name_4 ⟨Nat.le_of_ble_eq_true rfl, Nat.le_of_ble_eq_true rfl⟩ ⟨by show _ ≤ 6; omega, by show _ ≤ 7600; omega⟩ (Nat.le_of_ble_eq_true rfl) (fun b => ?_)
  refine y_ldcS (idx := 60) (i := 11) (tx := "s") C hX rfl dL_name_7 (by decide) ?_
  refine y_apK (i := 11) C hX hN (by decide) dL_name_9 ⟨(zmem 496 (by decide +kernel)), (zmem 497 (by decide +kernel)), (zmem 498 (by decide +kernel)), (zmem 31 (by decide +kernel)), (zmem 499 (by decide +kernel)), ⟨by decide, by decide⟩, by decide +kernel⟩ (Nat.le_of_ble_eq_true rfl) ⟨Nat.le_of_ble_eq_true rfl, Nat.le_of_ble_eq_true rfl⟩ ⟨by show _ ≤ 6; omega, by show _ ≤ 7600; omega⟩ (Nat.le_of_ble_eq_true rfl) ?_
  refine y_bipush C dL_name_12 (by decide) rfl ?_
  refine y_iload_n C dL_name_14 rfl ?_
  refine y_iadd C dL_name_15 ?_
  refine y_num (y := 97 + (k : Int)) (zw_id ⟨by omega, by omega⟩) ?_
  refine y_i2c C dL_name_16 (by omega) (by omega) ?_
  refine y_apN (k := 1) (As := [.inl (97 + (k : Int))]) (rest := []) (u := [zi (97 + (k : Int))]) C hX hN rfl dL_name_17 ⟨(zmem 714 (by decide +kernel)), (zmem 715 (by decide +kernel)), (zmem 716 (by decide +kernel)), (zmem 31 (by decide +kernel)), (zmem 717 (by decide +kernel)), ⟨by decide, by decide⟩, by decide +kernel⟩ (fun wc da m0 f hh => c_J4_appendC wc l b da m0 _ f _ (zi97 hk) hh (Nat.le_of_ble_eq_true rfl)) rfl ⟨Nat.le_of_ble_eq_true rfl, Nat.le_of_ble_eq_true rfl⟩ ⟨by show _ ≤ 6; omega, by show _ ≤ 7600; omega⟩ ⟨rfl, Nat.le_of_ble_eq_true rfl⟩ ?_
  refine y_toS C hX hN dL_name_20 ⟨(zmem 649 (by decide +kernel)), (zmem 650 (by decide +kernel)), (zmem 651 (by decide +kernel)), (zmem 31 (by decide +kernel)), (zmem 652 (by decide +kernel)), ⟨by decide, by decide⟩, by decide +kernel⟩ (Nat.le_of_ble_eq_true rfl) ⟨Nat.le_of_ble_eq_true rfl, Nat.le_of_ble_eq_true rfl⟩ ⟨by show _ ≤ 6; omega, by show _ ≤ 7600; omega⟩ (Nat.le_of_ble_eq_true rfl) (fun q qa g hg => ?_)
  exact y_aret C Z1 (Or.inl ⟨_, rfl⟩) Z2 ⟨by show _ ≤ 6; omega, by show _ ≤ 7600; omega⟩ dL_name_23 ⟨q, qa, g, rfl, rfl, hg⟩
section YN
variable {w wc : zW} {p : Program} {l : Launch} {e : Env} {R : Room} {s : State} {m : MethodId} {args : Array Value} {below : List Frame} {meth : Method} {c : Code} {nL cells slots : Nat} {Q : State → Prop}
variable {cc : ByteArray} {own : String} {pc : Nat} {loc : List (Option zv)} {stk : List zv} {G : Heap → Prop} {ws : va_W}
/-- a name is asked for -/
theorem y_name (C : zC w p s m args c nL cc own) (hX : yX w s s.heap) (hN0 : ∀ q, s.heap.size ≤ q → zA w q) {idx b k : Nat} {T : List Int32} {strs : va_W} {rest : List zv} (hk : k < 10) (hd : decode cc pc = .ok (.invokestatic idx, 3)) (hm : zMS own idx yL_name cL_name 1 (some (.object "java/lang/String")) 1)
    (hR : 7 ≤ R.frames ∧ 8 + (1 + 11) + 260 ≤ R.locals) (hcs : cells + 6 ≤ R.cells ∧ slots + 7600 ≤ R.slots) (hk8 : rest.length ≤ 8)
    (kk : ∀ (q qa : Nat) (g : Nat → Int32), yHs (tNm k) g → yS w p l e R s m args below meth c nL (cells + 6) (slots + 7600) Q (pc + 3) loc (.inr (9, q) :: rest) (yBS w b T (yStr w q qa 2 g ++ strs))) : yS w p l e R s m args below meth c nL cells slots Q pc loc (.inl (k : Int) :: rest) (yBS w b T strs) := by
  refine y_ex fun da => y_ex fun m0 => y_ex fun f => ?_
  refine y_fact (P := yHold T m0 f) (fun H h => h.1) fun hh => ?_
  refine y_to (G' := yL w (yW w b da m0 T.length f ++ strs)) (fun H h => h.2) ?_
  refine y_size fun N hN => ?_
  have hA : ∀ a, zA (zPu w (yU1 N)) a → zA w a := fun a ha => hN0 a (Nat.le_trans hN (zPu_A.mp ha))
  refine y_callS (wc := zPu w (yU1 N)) (k := 1) (As := [.inl (k : Int)]) (rest := rest) (Gc := yL (zPu w (yU1 N)) []) C hd hm hA (c_L_name (zPu w (yU1 N)) l k hk) (fun H locs hG hS U hU hW => ⟨?_, ?_, ?_⟩) rfl hR hcs ⟨rfl, hk8⟩ (fun r G1 hp => ?_)
  · exact zPu_Kn (fun a ha => hN0 a (Nat.le_trans hN ha)) (yKn.warm hW hS hU ⟨C.2.2.2.2.2, hX⟩)
  · intro a ha
    exact zPu_A.mpr (show N ≤ a by rw [← hG.2, ← hU]; exact ha)
  · exact ⟨fun k q h => by simp at h, fun i j p q h => by simp at h, fun k q h => by simp at h⟩
  · obtain ⟨q, qa, g, rfl, rfl, hg⟩ := hp
    refine y_to (G' := yBS w b T (yStr w q qa 2 g ++ strs)) (fun H1 h => ?_) (kk q qa g hg)
    obtain ⟨h1, H0, hG0, hsz, hk⟩ := h
    have hj := yL_join (wc := zPu w (yU1 N)) (w := w) rfl hG0.1 hG0.1.2 (fun k q hq => ⟨⟨k, hq⟩, fun z => by
      have := (hG0.1.1 k q hq).lt
      rw [hG0.2] at this
      exact absurd (zPu_A.mp z) (Nat.not_le.mpr this)⟩) hA (yL_left h1) hk
    exact ⟨da, m0, f, hh, yL_swap3 hj⟩
/-- an int method of the law's own -/
theorem y_int (C : zC w p s m args c nL cc own) (hX : yX w s s.heap) {idx n k fr lo : Nat} {y : MethodName} {bt : ByteArray} {As rest : List zv} {x : Int} {E : Option Int} (hd : decode cc pc = .ok (.invokestatic idx, 3)) (hm : zMS own idx y bt n (some .int) k)
    (hc : zCp (zPu w yF) l y bt n (some .int) fr lo As zH0 qI E) (hE : E = some x) (hAs : ∀ u ∈ As, (∃ x, u = .inl x) ∨ ∃ q, u = .inr q ∧ zwK w q.2 = 31 ∧ q.1 = 30) (hs : stk = As.reverse ++ rest) (hR : fr + 1 ≤ R.frames ∧ 8 + (n + 11) + lo ≤ R.locals) (hcs : cells ≤ R.cells ∧ slots ≤ R.slots) (hk8 : As.length = k ∧ rest.length ≤ 8) (hx : zR x) (hG : yStab G)
    (kk : yS w p l e R s m args below meth c nL cells slots Q (pc + 3) loc (.inl x :: rest) G) : yS w p l e R s m args below meth c nL cells slots Q pc loc stk G :=
  y_pureS C hX hd hm (hc x hE) hAs hs hR hcs hk8 hx hG kk
theorem yBS_stab {b : Nat} {T : List Int32} {strs : va_W} : yStab (yBS w b T strs) := fun H H1 h hz hq => by
  obtain ⟨da, m, f, h1, h2⟩ := h
  exact ⟨da, m, f, h1, yL_stab H H1 h2 hz hq⟩
end YN
