/-! The law's text, whole; the number of its statements. -/
theorem y_zX {w : zW} {p : Program} {s : State} {m : MethodId} {args : Array Value} {c : Code} {nL : Nat} {cc : ByteArray} {own : String} (C : zC w p s m args c nL cc own) (k : Nat) : zR (zX w k) := by
  unfold zX
  split
  · exact C.2.2.2.2.2.2.2.1.2.2.2.2.2.2.2.2.1.2 k
  · exact zR_0
theorem c_L_text (w : zW) (l : Launch)  : yCt w l yL_text cL_text 3 (some (.object "java/lang/String")) 7 300 300 600000 [.inr (30, zwS w 30)] (yL w []) (fun r G1 => ∃ (q qa : Nat) (g : Nat → Int32), r = some (.inr (9, q)) ∧ G1 = yL w (yStr w q qa (tTxt w).length g ++ []) ∧ (tTxt w).length ≤ 900 ∧ yHs (tTxt w) g) := by
  refine yCt.of (own := RL) (loc := [some (.inr (30, zwS w 30)), none, none]) (by decide +kernel) rfl (Nat.le_of_ble_eq_true rfl) (fun k v hk => ?_) ?_
  · exact zloc_ok 2 rfl hk
  intro p e s m9 args below meth c C hX Z1 Z2 Z3 hN
  have B0 : (ySB.getD 0 []).length = 1 := rfl
  have B1 : (ySB.getD 1 []).length = 9 := rfl
  have B2 : (ySB.getD 2 []).length = 12 := rfl
  have B3 : (ySB.getD 3 []).length = 11 := rfl
  have B4 : (ySB.getD 4 []).length = 11 := rfl
  have B5 : (ySB.getD 5 []).length = 1 := rfl
  have B6 : (ySB.getD 6 []).length = 8 := rfl
  have B7 : (ySB.getD 7 []).length = 1 := rfl
  have B8 : (ySB.getD 8 []).length = 0 := rfl
  have B9 : (ySB.getD 9 []).length = 5 := rfl
  have B10 : (ySB.getD 10 []).length = 5 := rfl
  have B11 : (ySB.getD 11 []).length = 1 := rfl
  have h1 := mC_b (w := w)
  have h2 := (l_length (w := w) (h := zH0)).2
  have h3 := (l_guard (w := w) (h := zH0)).2
  have h4 := (l_level (w := w) (h := zH0)).2
  have y1 := yLen_b (mC w)
  have y2 := yLen_b (mLen w)
  have y3 := yLen_b (mGrd w)
  have y4 := yLen_b (mLev w)
  have hx9 : zR (zX w 9) := y_zX C 9
  refine y_newSB C hX hN (zmem 464 (by decide +kernel)) (zmem 465 (by decide +kernel)) (zmem 31 (by decide +kernel)) ⟨rfl, (zmem 466 (by decide +kernel)), (zmem 467 (by decide +kernel)), (zmem 31 (by decide +kernel)), (zmem 468 (by decide +kernel)), ⟨by decide, by decide⟩, by decide +kernel⟩ dL_text_0 dL_text_3 dL_text_4 ⟨Nat.le_of_ble_eq_true rfl, Nat.le_of_ble_eq_true rfl⟩ ⟨by show _ ≤ 300; omega, by show _ ≤ 600000; omega⟩ (Nat.le_of_ble_eq_true rfl) (fun b => ?_)
  refine y_ldcS (idx := 65) (i := 1) (tx := "carriers ") C hX rfl dL_text_7 (by decide) ?_
  refine y_apK (i := 1) C hX hN (by decide) dL_text_9 ⟨(zmem 496 (by decide +kernel)), (zmem 497 (by decide +kernel)), (zmem 498 (by decide +kernel)), (zmem 31 (by decide +kernel)), (zmem 499 (by decide +kernel)), ⟨by decide, by decide⟩, by decide +kernel⟩ (by simp only [List.length_append, List.length_nil, List.length_cons, yDig_len, tNm]; omega) ⟨Nat.le_of_ble_eq_true rfl, Nat.le_of_ble_eq_true rfl⟩ ⟨by show _ ≤ 300; omega, by show _ ≤ 600000; omega⟩ (Nat.le_of_ble_eq_true rfl) ?_
  refine y_aload_n C dL_text_12 rfl ?_
  refine y_int (k := 1) (As := [.inr (30, zwS w 30)]) (rest := [.inr (8, b)]) (x := ((mC w : Nat) : Int)) C hX dL_text_13 ⟨(zmem 168 (by decide +kernel)), (zmem 169 (by decide +kernel)), (zmem 20 (by decide +kernel)), (zmem 170 (by decide +kernel)), ⟨by decide, by decide⟩, by decide +kernel⟩ (cq_L_carriers (zPu w yF) l zH0) ((l_carriers (w := w) (h := zH0)).trans (congrArg some mC_b.2.2.symm)) (yAs1 C) rfl ⟨Nat.le_of_ble_eq_true rfl, Nat.le_of_ble_eq_true rfl⟩ ⟨by show _ ≤ 300; omega, by show _ ≤ 600000; omega⟩ ⟨rfl, Nat.le_of_ble_eq_true rfl⟩ ⟨by omega, by omega⟩ yBS_stab ?_
  refine y_apN (k := 1) (As := [.inl (((mC w) : Nat) : Int)]) (rest := []) (u := yDig (mC w)) C hX hN rfl dL_text_16 ⟨(zmem 614 (by decide +kernel)), (zmem 615 (by decide +kernel)), (zmem 616 (by decide +kernel)), (zmem 31 (by decide +kernel)), (zmem 617 (by decide +kernel)), ⟨by decide, by decide⟩, by decide +kernel⟩ (fun wc da m0 f hh => c_J4_appendI wc l b da m0 _ f (mC w) (by omega) hh (by simp only [List.length_append, List.length_nil, List.length_cons, yDig_len, tNm]; omega)) rfl ⟨Nat.le_of_ble_eq_true rfl, Nat.le_of_ble_eq_true rfl⟩ ⟨by show _ ≤ 300; omega, by show _ ≤ 600000; omega⟩ ⟨rfl, Nat.le_of_ble_eq_true rfl⟩ ?_
  refine y_ldcS (idx := 73) (i := 2) (tx := ";set length ") C hX rfl dL_text_19 (by decide) ?_
  refine y_apK (i := 2) C hX hN (by decide) dL_text_21 ⟨(zmem 496 (by decide +kernel)), (zmem 497 (by decide +kernel)), (zmem 498 (by decide +kernel)), (zmem 31 (by decide +kernel)), (zmem 499 (by decide +kernel)), ⟨by decide, by decide⟩, by decide +kernel⟩ (by simp only [List.length_append, List.length_nil, List.length_cons, yDig_len, tNm]; omega) ⟨Nat.le_of_ble_eq_true rfl, Nat.le_of_ble_eq_true rfl⟩ ⟨by show _ ≤ 300; omega, by show _ ≤ 600000; omega⟩ (Nat.le_of_ble_eq_true rfl) ?_
  refine y_aload_n C dL_text_24 rfl ?_
  refine y_int (k := 1) (As := [.inr (30, zwS w 30)]) (rest := [.inr (8, b)]) (x := ((mLen w : Nat) : Int)) C hX dL_text_25 ⟨(zmem 640 (by decide +kernel)), (zmem 641 (by decide +kernel)), (zmem 20 (by decide +kernel)), (zmem 642 (by decide +kernel)), ⟨by decide, by decide⟩, by decide +kernel⟩ (cq_L_length (zPu w yF) l zH0) ((l_length (w := w) (h := zH0)).1) (yAs1 C) rfl ⟨Nat.le_of_ble_eq_true rfl, Nat.le_of_ble_eq_true rfl⟩ ⟨by show _ ≤ 300; omega, by show _ ≤ 600000; omega⟩ ⟨rfl, Nat.le_of_ble_eq_true rfl⟩ ⟨by omega, by omega⟩ yBS_stab ?_
  refine y_apN (k := 1) (As := [.inl (((mLen w) : Nat) : Int)]) (rest := []) (u := yDig (mLen w)) C hX hN rfl dL_text_28 ⟨(zmem 614 (by decide +kernel)), (zmem 615 (by decide +kernel)), (zmem 616 (by decide +kernel)), (zmem 31 (by decide +kernel)), (zmem 617 (by decide +kernel)), ⟨by decide, by decide⟩, by decide +kernel⟩ (fun wc da m0 f hh => c_J4_appendI wc l b da m0 _ f (mLen w) (by omega) hh (by simp only [List.length_append, List.length_nil, List.length_cons, yDig_len, tNm]; omega)) rfl ⟨Nat.le_of_ble_eq_true rfl, Nat.le_of_ble_eq_true rfl⟩ ⟨by show _ ≤ 300; omega, by show _ ≤ 600000; omega⟩ ⟨rfl, Nat.le_of_ble_eq_true rfl⟩ ?_
  refine y_ldcS (idx := 77) (i := 3) (tx := ";set guard ") C hX rfl dL_text_31 (by decide) ?_
  refine y_apK (i := 3) C hX hN (by decide) dL_text_33 ⟨(zmem 496 (by decide +kernel)), (zmem 497 (by decide +kernel)), (zmem 498 (by decide +kernel)), (zmem 31 (by decide +kernel)), (zmem 499 (by decide +kernel)), ⟨by decide, by decide⟩, by decide +kernel⟩ (by simp only [List.length_append, List.length_nil, List.length_cons, yDig_len, tNm]; omega) ⟨Nat.le_of_ble_eq_true rfl, Nat.le_of_ble_eq_true rfl⟩ ⟨by show _ ≤ 300; omega, by show _ ≤ 600000; omega⟩ (Nat.le_of_ble_eq_true rfl) ?_
  refine y_aload_n C dL_text_36 rfl ?_
  refine y_int (k := 1) (As := [.inr (30, zwS w 30)]) (rest := [.inr (8, b)]) (x := ((mGrd w : Nat) : Int)) C hX dL_text_37 ⟨(zmem 644 (by decide +kernel)), (zmem 645 (by decide +kernel)), (zmem 20 (by decide +kernel)), (zmem 646 (by decide +kernel)), ⟨by decide, by decide⟩, by decide +kernel⟩ (cq_L_guard (zPu w yF) l zH0) ((l_guard (w := w) (h := zH0)).1) (yAs1 C) rfl ⟨Nat.le_of_ble_eq_true rfl, Nat.le_of_ble_eq_true rfl⟩ ⟨by show _ ≤ 300; omega, by show _ ≤ 600000; omega⟩ ⟨rfl, Nat.le_of_ble_eq_true rfl⟩ ⟨by omega, by omega⟩ yBS_stab ?_
  refine y_apN (k := 1) (As := [.inl (((mGrd w) : Nat) : Int)]) (rest := []) (u := yDig (mGrd w)) C hX hN rfl dL_text_40 ⟨(zmem 614 (by decide +kernel)), (zmem 615 (by decide +kernel)), (zmem 616 (by decide +kernel)), (zmem 31 (by decide +kernel)), (zmem 617 (by decide +kernel)), ⟨by decide, by decide⟩, by decide +kernel⟩ (fun wc da m0 f hh => c_J4_appendI wc l b da m0 _ f (mGrd w) (by omega) hh (by simp only [List.length_append, List.length_nil, List.length_cons, yDig_len, tNm]; omega)) rfl ⟨Nat.le_of_ble_eq_true rfl, Nat.le_of_ble_eq_true rfl⟩ ⟨by show _ ≤ 300; omega, by show _ ≤ 600000; omega⟩ ⟨rfl, Nat.le_of_ble_eq_true rfl⟩ ?_
  refine y_ldcS (idx := 82) (i := 4) (tx := ";set level ") C hX rfl dL_text_43 (by decide) ?_
  refine y_apK (i := 4) C hX hN (by decide) dL_text_45 ⟨(zmem 496 (by decide +kernel)), (zmem 497 (by decide +kernel)), (zmem 498 (by decide +kernel)), (zmem 31 (by decide +kernel)), (zmem 499 (by decide +kernel)), ⟨by decide, by decide⟩, by decide +kernel⟩ (by simp only [List.length_append, List.length_nil, List.length_cons, yDig_len, tNm]; omega) ⟨Nat.le_of_ble_eq_true rfl, Nat.le_of_ble_eq_true rfl⟩ ⟨by show _ ≤ 300; omega, by show _ ≤ 600000; omega⟩ (Nat.le_of_ble_eq_true rfl) ?_
  refine y_aload_n C dL_text_48 rfl ?_
  refine y_bipush C dL_text_49 (by decide) rfl ?_
  refine y_int (k := 2) (As := [.inr (30, zwS w 30), .inl 9]) (rest := [.inr (8, b)]) (x := zX w 9) C hX dL_text_51 ⟨(zmem 158 (by decide +kernel)), (zmem 159 (by decide +kernel)), (zmem 20 (by decide +kernel)), (zmem 160 (by decide +kernel)), ⟨by decide, by decide⟩, by decide +kernel⟩ (cq_L_cell (zPu w yF) l zH0 9) (l_cell (w := w) (h := zH0) (k := 9)) (yAs2 C) rfl ⟨Nat.le_of_ble_eq_true rfl, Nat.le_of_ble_eq_true rfl⟩ ⟨by show _ ≤ 300; omega, by show _ ≤ 600000; omega⟩ ⟨rfl, Nat.le_of_ble_eq_true rfl⟩ hx9 yBS_stab ?_
  refine y_bipush C dL_text_54 (by decide) rfl ?_
  refine y_idiv C dL_text_56 (by decide) ?_
  refine y_sipush C dL_text_57 (by decide) rfl ?_
  refine y_int (k := 2) (As := [.inl (zw ((zX w 9).tdiv 8)), .inl 200]) (rest := [.inr (8, b)]) (x := ((mLev w : Nat) : Int)) C hX dL_text_60 ⟨(zmem 164 (by decide +kernel)), (zmem 165 (by decide +kernel)), (zmem 20 (by decide +kernel)), (zmem 166 (by decide +kernel)), ⟨by decide, by decide⟩, by decide +kernel⟩ (cq_L_in (zPu w yF) l zH0 _ _) ((l_level (w := w) (h := zH0)).1) (fun u hu => Or.inl (by simp only [List.mem_cons, List.not_mem_nil, or_false] at hu; rcases hu with rfl | rfl <;> exact ⟨_, rfl⟩)) rfl ⟨Nat.le_of_ble_eq_true rfl, Nat.le_of_ble_eq_true rfl⟩ ⟨by show _ ≤ 300; omega, by show _ ≤ 600000; omega⟩ ⟨rfl, Nat.le_of_ble_eq_true rfl⟩ ⟨by omega, by omega⟩ yBS_stab ?_
  refine y_apN (k := 1) (As := [.inl (((mLev w) : Nat) : Int)]) (rest := []) (u := yDig (mLev w)) C hX hN rfl dL_text_63 ⟨(zmem 614 (by decide +kernel)), (zmem 615 (by decide +kernel)), (zmem 616 (by decide +kernel)), (zmem 31 (by decide +kernel)), (zmem 617 (by decide +kernel)), ⟨by decide, by decide⟩, by decide +kernel⟩ (fun wc da m0 f hh => c_J4_appendI wc l b da m0 _ f (mLev w) (by omega) hh (by simp only [List.length_append, List.length_nil, List.length_cons, yDig_len, tNm]; omega)) rfl ⟨Nat.le_of_ble_eq_true rfl, Nat.le_of_ble_eq_true rfl⟩ ⟨by show _ ≤ 300; omega, by show _ ≤ 600000; omega⟩ ⟨rfl, Nat.le_of_ble_eq_true rfl⟩ ?_
  refine y_ldcS (idx := 84) (i := 5) (tx := ";") C hX rfl dL_text_66 (by decide) ?_
  refine y_apK (i := 5) C hX hN (by decide) dL_text_68 ⟨(zmem 496 (by decide +kernel)), (zmem 497 (by decide +kernel)), (zmem 498 (by decide +kernel)), (zmem 31 (by decide +kernel)), (zmem 499 (by decide +kernel)), ⟨by decide, by decide⟩, by decide +kernel⟩ (by simp only [List.length_append, List.length_nil, List.length_cons, yDig_len, tNm]; omega) ⟨Nat.le_of_ble_eq_true rfl, Nat.le_of_ble_eq_true rfl⟩ ⟨by show _ ≤ 300; omega, by show _ ≤ 600000; omega⟩ (Nat.le_of_ble_eq_true rfl) ?_
  refine y_toS C hX hN dL_text_71 ⟨(zmem 649 (by decide +kernel)), (zmem 650 (by decide +kernel)), (zmem 651 (by decide +kernel)), (zmem 31 (by decide +kernel)), (zmem 652 (by decide +kernel)), ⟨by decide, by decide⟩, by decide +kernel⟩ (by simp only [List.length_append, List.length_nil, List.length_cons, yDig_len, tNm]; omega) ⟨Nat.le_of_ble_eq_true rfl, Nat.le_of_ble_eq_true rfl⟩ ⟨by show _ ≤ 300; omega, by show _ ≤ 600000; omega⟩ (Nat.le_of_ble_eq_true rfl) (fun q qa g hg => ?_)
  refine y_astore_n C dL_text_74 (by decide) ?_
  have eT : ((((((((([] ++ ySB.getD 1 []) ++ yDig (mC w)) ++ ySB.getD 2 []) ++ yDig (mLen w)) ++ ySB.getD 3 []) ++ yDig (mGrd w)) ++ ySB.getD 4 []) ++ yDig (mLev w)) ++ ySB.getD 5 []) = tSt w 0 := by
    unfold tSt tHead
    simp only [List.range_zero, List.flatMap_nil, List.append_nil, List.append_assoc, List.nil_append]
  rw [eT] at hg ⊢
  have hl0 : (tSt w 0).length ≤ 100 + 60 * 0 := by rw [← eT]; simp only [List.length_append, List.length_nil, List.length_cons, yDig_len, tNm]; omega
  refine y_to (G' := yL w (yStr w q qa (tSt w 0).length g ++ [])) (fun H h => h) ?_
  refine y_iconst C dL_text_75 rfl ?_
  refine y_num (y := ((0 : Nat) : Int)) rfl ?_
  refine y_istore_n C dL_text_76 (by decide) ?_
  refine y_widen (k := 13 + 23 * 0) (n := 28524 + 48124 * 0) (Nat.le_of_ble_eq_true rfl) (Nat.le_of_ble_eq_true rfl) ?_
  refine L_sta C hX hN (fun q1 qa1 g1 hl1 hg1 => ?_) (mS w) 0 (Nat.zero_add _) q qa g hl0 hg
  have hs := mS_b (w := w)
  have hr := (l_rains (w := w) (h := zH0)).2
  have hcl := (l_calls (w := w) (h := zH0)).2
  have e1 : tSt w (mS w) = tRn w 0 := by unfold tRn; simp only [List.range_zero, List.flatMap_nil, List.append_nil]
  rw [e1] at hl1 hg1 ⊢
  refine y_iconst C dL_text_196 rfl ?_
  refine y_num (y := ((0 : Nat) : Int)) rfl ?_
  refine y_istore_n C dL_text_197 (by decide) ?_
  refine y_widen (k := 128 + 20 * 0) (n := 269144 + 39124 * 0) (by omega) (by omega) ?_
  refine L_rai C hX hN (fun q2 qa2 g2 hl2 hg2 => ?_) (mRns w) 0 (Nat.zero_add _) q1 qa1 g1 (by omega) hg1
  have e2 : tRn w (mRns w) = tCa w 0 := by unfold tCa; simp only [List.range_zero, List.flatMap_nil, List.append_nil]
  rw [e2] at hl2 hg2 ⊢
  refine y_iconst C dL_text_291 rfl ?_
  refine y_num (y := ((0 : Nat) : Int)) rfl ?_
  refine y_istore_n C dL_text_292 (by decide) ?_
  refine y_widen (k := 188 + 28 * 0) (n := 386516 + 52724 * 0) (by omega) (by omega) ?_
  refine L_cal C hX hN (fun q3 qa3 g3 hl3 hg3 => ?_) (mCls w) 0 (Nat.zero_add _) q2 qa2 g2 (by omega) hg2
  refine y_aload_n C dL_text_403 rfl ?_
  exact y_aret C Z1 (Or.inl ⟨_, rfl⟩) Z2 ⟨by show _ ≤ 300; omega, by show _ ≤ 600000; omega⟩ dL_text_404 ⟨q3, qa3, g3, rfl, rfl, (show (tCa w (mCls w)).length ≤ 900 by omega), hg3⟩
/-- how many of the first k letters end a statement -/
def nSm (t : List Int32) : Nat → Nat
  | 0 => 0
  | k + 1 => nSm t k + (if (t.getD k 0).toInt = 59 then 1 else 0)
theorem nSm_s {t : List Int32} {k : Nat} : nSm t (k + 1) = nSm t k + (if (t.getD k 0).toInt = 59 then 1 else 0) := rfl
theorem nSm_le {t : List Int32} : ∀ k, nSm t k ≤ k := by
  intro k
  induction k with
  | zero => exact Nat.le_refl _
  | succ k ih =>
    unfold nSm
    split <;> omega
theorem c_L_statements (w : zW) (l : Launch) (h : zH) : zCt w l yL_statements cL_statements 3 (some .int) 4 90 [.inr (30, zwS w 31)] h (zFn (some (.inl ((nSm (zwTl w) (zwTl w).length : Nat) : Int))) h) := by
  refine zCt.of (own := RL) (loc := [some (.inr (30, zwS w 31)), none, none]) (by decide) rfl (Nat.le_of_ble_eq_true rfl) (fun k v hk => ?_) ?_
  · exact zloc_ok 2 rfl hk
  intro p e s m9 args below meth c C Z1 Z2 ZA
  have hT := zTk C
  refine v_iconst C dL_statements_0 rfl ?_
  refine v_istore_n C dL_statements_1 (by decide) ?_
  refine v_iconst C dL_statements_2 rfl ?_
  refine v_istore_n C dL_statements_3 (by decide) ?_
  have key : ∀ (d k : Nat), k + d = (zwTl w).length → zV w p l e (zRm 4 90) s m9 args below meth c 3 0 0 (MQ below (zQ w (zFn (some (.inl ((nSm (zwTl w) (zwTl w).length : Nat) : Int))) h)) args s 0 0 (zA w)) 4 [some (.inr (30, zwS w 31)), some (.inl ((nSm (zwTl w) k : Nat) : Int)), some (.inl (k : Int))] [] h := by
    intro d
    induction d with
    | zero =>
      intro k hk
      obtain rfl : k = (zwTl w).length := by omega
      refine v_iload_n C dL_statements_4 rfl ?_
      refine v_aload_n C dL_statements_5 rfl ?_
      refine v_callTfT (k := 0) (As := []) C dL_statements_6 ⟨rfl, (zmem 766 (by decide +kernel)), (zmem 572 (by decide +kernel)), (zmem 573 (by decide +kernel)), (zmem 32 (by decide +kernel)), (zmem 574 (by decide +kernel)), ⟨by decide, by decide⟩, by decide +kernel⟩ (c_J0_lengthT w l h (zTk C)) rfl ⟨Nat.le_of_ble_eq_true rfl, Nat.le_of_ble_eq_true rfl⟩ ⟨Nat.zero_le _, Nat.zero_le _⟩ ⟨rfl, Nat.le_of_ble_eq_true rfl⟩ ?_
      refine v_icmp_ge C dL_statements_9 (tgt := 36) (by decide) (fun _ => ?_) (fun c1 => absurd (Int.le_refl _) c1)
      refine v_iload_n C dL_statements_36 rfl ?_
      exact v_iret C Z1 Z2 dL_statements_37 ⟨rfl, rfl⟩
    | succ d ih =>
      intro k hk
      have hnl := nSm_le (t := zwTl w) k
      have hT1 := hT.1
      refine v_iload_n C dL_statements_4 rfl ?_
      refine v_aload_n C dL_statements_5 rfl ?_
      refine v_callTfT (k := 0) (As := []) C dL_statements_6 ⟨rfl, (zmem 766 (by decide +kernel)), (zmem 572 (by decide +kernel)), (zmem 573 (by decide +kernel)), (zmem 32 (by decide +kernel)), (zmem 574 (by decide +kernel)), ⟨by decide, by decide⟩, by decide +kernel⟩ (c_J0_lengthT w l h (zTk C)) rfl ⟨Nat.le_of_ble_eq_true rfl, Nat.le_of_ble_eq_true rfl⟩ ⟨Nat.zero_le _, Nat.zero_le _⟩ ⟨rfl, Nat.le_of_ble_eq_true rfl⟩ ?_
      refine v_icmp_ge C dL_statements_9 (tgt := 36) (by decide) (fun c1 => by exfalso; omega) (fun _ => ?_)
      refine v_iload_n C dL_statements_12 rfl ?_
      refine v_aload_n C dL_statements_13 rfl ?_
      refine v_iload_n C dL_statements_14 rfl ?_
      refine v_callTfT (k := 1) (As := [.inl (k : Int)]) C dL_statements_15 ⟨rfl, (zmem 767 (by decide +kernel)), (zmem 768 (by decide +kernel)), (zmem 769 (by decide +kernel)), (zmem 32 (by decide +kernel)), (zmem 770 (by decide +kernel)), ⟨by decide, by decide⟩, by decide +kernel⟩ (c_J0_charAtT w l h hT (k : Int) (by omega) (by omega)) rfl ⟨Nat.le_of_ble_eq_true rfl, Nat.le_of_ble_eq_true rfl⟩ ⟨Nat.zero_le _, Nat.zero_le _⟩ ⟨rfl, Nat.le_of_ble_eq_true rfl⟩ ?_
      rw [Int.toNat_natCast]
      refine v_bipush C dL_statements_18 (by decide) rfl ?_
      refine v_icmp_ne C dL_statements_20 (tgt := 27) (by decide) (fun c1 => ?_) (fun c1 => ?_)
      · refine v_iconst C dL_statements_27 rfl ?_
        refine v_iadd C dL_statements_28 ?_
        rw [show zw (((nSm (zwTl w) k : Nat) : Int) + 0) = ((nSm (zwTl w) (k + 1) : Nat) : Int) by rw [zw_id ⟨by omega, by omega⟩]; rw [nSm_s, if_neg c1]; omega]
        refine v_istore_n C dL_statements_29 (by decide) ?_
        refine v_iinc C dL_statements_30 rfl (by decide) ?_
        rw [show zw ((k : Int) + 1) = ((k + 1 : Nat) : Int) by rw [zw_id ⟨by omega, by omega⟩]; omega]
        refine v_goto C dL_statements_33 (tgt := 4) (by decide) ?_
        exact ih (k + 1) (by omega)
      · refine v_iconst C dL_statements_23 rfl ?_
        refine v_goto C dL_statements_24 (tgt := 28) (by decide) ?_
        refine v_iadd C dL_statements_28 ?_
        rw [show zw (((nSm (zwTl w) k : Nat) : Int) + 1) = ((nSm (zwTl w) (k + 1) : Nat) : Int) by rw [zw_id ⟨by omega, by omega⟩]; rw [nSm_s, if_pos c1]; omega]
        refine v_istore_n C dL_statements_29 (by decide) ?_
        refine v_iinc C dL_statements_30 rfl (by decide) ?_
        rw [show zw ((k : Int) + 1) = ((k + 1 : Nat) : Int) by rw [zw_id ⟨by omega, by omega⟩]; omega]
        refine v_goto C dL_statements_33 (tgt := 4) (by decide) ?_
        exact ih (k + 1) (by omega)
  exact key (zwTl w).length 0 (Nat.zero_add _)
