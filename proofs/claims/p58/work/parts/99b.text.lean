/-! The law's text. -/
section YA
variable {w : zW} {p : Program} {l : Launch} {e : Env} {R : Room} {s : State} {m : MethodId} {args : Array Value} {below : List Frame} {meth : Method} {c : Code} {nL cells slots : Nat} {Q : State → Prop}
variable {cc : ByteArray} {own : String} {pc : Nat} {loc : List (Option zv)} {stk : List zv} {G : Heap → Prop}
theorem y_sc (C : zC w p s m args c nL cc own) : zwK w (zwS w 30) = 31 := C.2.2.2.2.2.2.2.1.2.2.2.2.2.2.2.1.1
theorem yAs1 (C : zC w p s m args c nL cc own) : ∀ u ∈ ([.inr (30, zwS w 30)] : List zv), (∃ x, u = .inl x) ∨ ∃ q : Nat × Nat, u = .inr q ∧ zwK w q.2 = 31 ∧ q.1 = 30 := fun u hu => by
  simp only [List.mem_cons, List.not_mem_nil, or_false] at hu
  subst hu
  exact Or.inr ⟨_, rfl, y_sc C, rfl⟩
theorem yAs2 (C : zC w p s m args c nL cc own) {x : Int} : ∀ u ∈ ([.inr (30, zwS w 30), .inl x] : List zv), (∃ x, u = .inl x) ∨ ∃ q : Nat × Nat, u = .inr q ∧ zwK w q.2 = 31 ∧ q.1 = 30 := fun u hu => by
  simp only [List.mem_cons, List.not_mem_nil, or_false] at hu
  rcases hu with rfl | rfl
  · exact Or.inr ⟨_, rfl, y_sc C, rfl⟩
  · exact Or.inl ⟨_, rfl⟩
theorem yAs3 (C : zC w p s m args c nL cc own) {x y : Int} : ∀ u ∈ ([.inr (30, zwS w 30), .inl x, .inl y] : List zv), (∃ x, u = .inl x) ∨ ∃ q : Nat × Nat, u = .inr q ∧ zwK w q.2 = 31 ∧ q.1 = 30 := fun u hu => by
  simp only [List.mem_cons, List.not_mem_nil, or_false] at hu
  rcases hu with rfl | rfl | rfl
  · exact Or.inr ⟨_, rfl, y_sc C, rfl⟩
  · exact Or.inl ⟨_, rfl⟩
  · exact Or.inl ⟨_, rfl⟩
theorem y_widen {k n : Nat} (h1 : cells ≤ k) (h2 : slots ≤ n) (kk : yS w p l e R s m args below meth c nL k n Q pc loc stk G) : yS w p l e R s m args below meth c nL cells slots Q pc loc stk G := fun H locs ls hR hS hl hk ho => W.widen h1 h2 (kk H locs ls hR hS hl hk ho)
end YA
/-- the text: carriers and settings, stations, rains, calls -/
def tHead (w : zW) : List Int32 := ySB.getD 1 [] ++ (yDig (mC w) ++ (ySB.getD 2 [] ++ (yDig (mLen w) ++ (ySB.getD 3 [] ++ (yDig (mGrd w) ++ (ySB.getD 4 [] ++ (yDig (mLev w) ++ ySB.getD 5 [])))))))
def tSta (w : zW) (k : Nat) : List Int32 := ySB.getD 6 [] ++ (tNm k ++ (ySB.getD 0 [] ++ (yDig (mDel w k) ++ (ySB.getD 0 [] ++ (ySB.getD (if iDri w k < 0 then 7 else 8) [] ++ (yDig (iDri w k).natAbs ++ (ySB.getD 0 [] ++ (yDig (mNom w k) ++ (ySB.getD 0 [] ++ (yDig (mGre w k) ++ ySB.getD 5 []))))))))))
def tRai (w : zW) (r : Nat) : List Int32 := ySB.getD 9 [] ++ (tNm (mRn w r 0) ++ (ySB.getD 0 [] ++ (yDig (mRn w r 1) ++ (ySB.getD 0 [] ++ (yDig (mRn w r 2) ++ (ySB.getD 0 [] ++ (yDig (mRn w r 3) ++ ySB.getD 5 [])))))))
def tCal (w : zW) (k : Nat) : List Int32 := ySB.getD 10 [] ++ (tNm (mCl w k 0) ++ (ySB.getD 0 [] ++ (tNm (mCl w k 1) ++ (ySB.getD 0 [] ++ (yDig (mCl w k 2) ++ (ySB.getD 0 [] ++ (yDig (mCl w k 3) ++ (ySB.getD 0 [] ++ (yDig (mCl w k 4) ++ ySB.getD 5 [])))))))))
def tSt (w : zW) (n : Nat) : List Int32 := tHead w ++ (List.range n).flatMap (tSta w)
def tRn (w : zW) (n : Nat) : List Int32 := tSt w (mS w) ++ (List.range n).flatMap (tRai w)
def tCa (w : zW) (n : Nat) : List Int32 := tRn w (mRns w) ++ (List.range n).flatMap (tCal w)
def tTxt (w : zW) : List Int32 := tCa w (mCls w)
theorem tSt_s {w : zW} {n : Nat} : tSt w (n + 1) = tSt w n ++ tSta w n := by
  unfold tSt
  rw [List.range_succ, List.flatMap_append, List.append_assoc]
  simp
theorem tRn_s {w : zW} {n : Nat} : tRn w (n + 1) = tRn w n ++ tRai w n := by
  unfold tRn
  rw [List.range_succ, List.flatMap_append, List.append_assoc]
  simp
theorem tCa_s {w : zW} {n : Nat} : tCa w (n + 1) = tCa w n ++ tCal w n := by
  unfold tCa
  rw [List.range_succ, List.flatMap_append, List.append_assoc]
  simp
/-- all letters are small -/
def ySm (u : List Int32) : Prop := ∀ x ∈ u, 0 ≤ x.toInt ∧ x.toInt < 128
theorem ySm_app {a b : List Int32} (ha : ySm a) (hb : ySm b) : ySm (a ++ b) := fun x hx => (List.mem_append.mp hx).elim (ha x) (hb x)
theorem ySm_B {i : Nat} (hi : i < 12) : ySm (ySB.getD i []) := (yOk_B i hi).1.2
theorem ySm_nm {k : Nat} (hk : k < 10) : ySm (tNm k) := (tNm_ok hk).2
theorem ySm_C {d : Nat} (hd : d < 10) : 0 ≤ (yC d).toInt ∧ (yC d).toInt < 128 := by
  unfold yC
  rw [zi_toInt ⟨by omega, by omega⟩]
  omega
theorem ySm_dig {n : Nat} (hn : n < 10000) : ySm (yDig n) := by
  intro x hx
  unfold yDig at hx
  split at hx
  · simp only [List.mem_cons, List.not_mem_nil, or_false] at hx
    subst hx
    exact ySm_C (by omega)
  split at hx
  · simp only [List.mem_cons, List.not_mem_nil, or_false] at hx
    rcases hx with rfl | rfl <;> exact ySm_C (by omega)
  split at hx
  · simp only [List.mem_cons, List.not_mem_nil, or_false] at hx
    rcases hx with rfl | rfl | rfl <;> exact ySm_C (by omega)
  · simp only [List.mem_cons, List.not_mem_nil, or_false] at hx
    rcases hx with rfl | rfl | rfl | rfl <;> exact ySm_C (by omega)
theorem ySm_head {w : zW} : ySm (tHead w) := by
  have h1 := mC_b (w := w)
  have h2 := (l_length (w := w) (h := zH0)).2
  have h3 := (l_guard (w := w) (h := zH0)).2
  have h4 := (l_level (w := w) (h := zH0)).2
  unfold tHead
  exact ySm_app (ySm_B (by decide)) (ySm_app (ySm_dig (by omega)) (ySm_app (ySm_B (by decide)) (ySm_app (ySm_dig (by omega)) (ySm_app (ySm_B (by decide)) (ySm_app (ySm_dig (by omega)) (ySm_app (ySm_B (by decide)) (ySm_app (ySm_dig (by omega)) (ySm_B (by decide)))))))))
theorem ySm_sta {w : zW} {k : Nat} (hk : k < 10) : ySm (tSta w k) := by
  have f1 := (l_delay (w := w) (h := zH0) (show k < 100 by omega)).2
  have f2 := (l_nominal (w := w) (h := zH0) (show k < 100 by omega)).2
  have f3 := (l_greatest (w := w) (h := zH0) (show k < 100 by omega)).2
  have f4 := (l_drift (w := w) (h := zH0) (show k < 100 by omega)).2
  unfold tSta
  exact ySm_app (ySm_B (by decide)) (ySm_app (ySm_nm hk) (ySm_app (ySm_B (by decide)) (ySm_app (ySm_dig (by omega)) (ySm_app (ySm_B (by decide)) (ySm_app (ySm_B (by split <;> decide)) (ySm_app (ySm_dig (by omega)) (ySm_app (ySm_B (by decide)) (ySm_app (ySm_dig (by omega)) (ySm_app (ySm_B (by decide)) (ySm_app (ySm_dig (by omega)) (ySm_B (by decide))))))))))))
theorem ySm_rai {w : zW} {k : Nat} (hk : k < 10) : ySm (tRai w k) := by
  have hs := mS_b (w := w)
  have f1 := (l_rain (w := w) (h := zH0) (show k < 90 by omega)).2
  unfold tRai
  exact ySm_app (ySm_B (by decide)) (ySm_app (ySm_nm (by omega)) (ySm_app (ySm_B (by decide)) (ySm_app (ySm_dig (by omega)) (ySm_app (ySm_B (by decide)) (ySm_app (ySm_dig (by omega)) (ySm_app (ySm_B (by decide)) (ySm_app (ySm_dig (by omega)) (ySm_B (by decide)))))))))
theorem ySm_cal {w : zW} {k : Nat} (hk : k < 10) : ySm (tCal w k) := by
  have hs := mS_b (w := w)
  have f1 := (l_call (w := w) (h := zH0) (show k < 90 by omega)).2
  unfold tCal
  exact ySm_app (ySm_B (by decide)) (ySm_app (ySm_nm (by omega)) (ySm_app (ySm_B (by decide)) (ySm_app (ySm_nm (by omega)) (ySm_app (ySm_B (by decide)) (ySm_app (ySm_dig (by omega)) (ySm_app (ySm_B (by decide)) (ySm_app (ySm_dig (by omega)) (ySm_app (ySm_B (by decide)) (ySm_app (ySm_dig (by omega)) (ySm_B (by decide)))))))))))
theorem ySm_flat {f : Nat → List Int32} {n : Nat} (hn : n ≤ 10) (hf : ∀ k, k < 10 → ySm (f k)) : ySm ((List.range n).flatMap f) := fun x hx => by
  obtain ⟨k, hk, h⟩ := List.mem_flatMap.mp hx
  rw [List.mem_range] at hk
  exact hf k (by omega) x h
theorem tSt_sm {w : zW} {k : Nat} (hk : k ≤ 10) : ySm (tSt w k) := ySm_app ySm_head (ySm_flat hk fun _ h => ySm_sta h)
theorem tRn_sm {w : zW} {k : Nat} (hk : k ≤ 10) : ySm (tRn w k) := ySm_app (tSt_sm (by have := mS_b (w := w); omega)) (ySm_flat hk fun _ h => ySm_rai h)
theorem tCa_sm {w : zW} {k : Nat} (hk : k ≤ 10) : ySm (tCa w k) := ySm_app (tRn_sm (by have := (l_rains (w := w) (h := zH0)).2; omega)) (ySm_flat hk fun _ h => ySm_cal h)
theorem tSta_len {w : zW} {k : Nat} : (tSta w k).length ≤ 120 := by
  unfold tSta
  have B := yB_len
  have B0 := B 0 (by decide)
  have B5 := B 5 (by decide)
  have B6 := B 6 (by decide)
  have Bs := B (if iDri w k < 0 then 7 else 8) (by split <;> decide)
  have y1 := yLen_b (mDel w k)
  have y2 := yLen_b (iDri w k).natAbs
  have y3 := yLen_b (mNom w k)
  have y4 := yLen_b (mGre w k)
  simp only [List.length_append, List.length_nil, List.length_cons, yDig_len, tNm]
  omega
theorem yfl_len {f : Nat → List Int32} {n : Nat} (hf : ∀ k, (f k).length ≤ 120) : ((List.range n).flatMap f).length ≤ 120 * n := by
  induction n with
  | zero => exact Nat.le_refl _
  | succ n ih =>
    rw [List.range_succ, List.flatMap_append, List.length_append]
    have := hf n
    have e : (List.flatMap f [n]).length = (f n).length := by simp
    omega
theorem tRai_len {w : zW} {k : Nat} : (tRai w k).length ≤ 120 := by
  unfold tRai
  have B := yB_len
  have B0 := B 0 (by decide)
  have B5 := B 5 (by decide)
  have B9 := B 9 (by decide)
  have y1 := yLen_b (mRn w k 1)
  have y2 := yLen_b (mRn w k 2)
  have y3 := yLen_b (mRn w k 3)
  simp only [List.length_append, List.length_nil, List.length_cons, yDig_len, tNm]
  omega
theorem tCal_len {w : zW} {k : Nat} : (tCal w k).length ≤ 120 := by
  unfold tCal
  have B := yB_len
  have B0 := B 0 (by decide)
  have B5 := B 5 (by decide)
  have B10 := B 10 (by decide)
  have y1 := yLen_b (mCl w k 2)
  have y2 := yLen_b (mCl w k 3)
  have y3 := yLen_b (mCl w k 4)
  simp only [List.length_append, List.length_nil, List.length_cons, yDig_len, tNm]
  omega
theorem tHead_len {w : zW} : (tHead w).length ≤ 100 := by
  unfold tHead
  have B := yB_len
  have B1 := B 1 (by decide)
  have B2 := B 2 (by decide)
  have B3 := B 3 (by decide)
  have B4 := B 4 (by decide)
  have B5 := B 5 (by decide)
  have y1 := yLen_b (mC w)
  have y2 := yLen_b (mLen w)
  have y3 := yLen_b (mGrd w)
  have y4 := yLen_b (mLev w)
  simp only [List.length_append, List.length_nil, List.length_cons, yDig_len]
  omega
theorem tSt_len {w : zW} {k : Nat} : (tSt w k).length ≤ 100 + 120 * k := by
  unfold tSt
  rw [List.length_append]
  have h1 := tHead_len (w := w)
  have h2 := yfl_len (f := tSta w) (n := k) fun _ => tSta_len
  omega
theorem tRn_len {w : zW} {k : Nat} : (tRn w k).length ≤ 700 + 120 * k := by
  unfold tRn
  rw [List.length_append]
  have hs := mS_b (w := w)
  have h1 := tSt_len (w := w) (k := mS w)
  have h2 := yfl_len (f := tRai w) (n := k) fun _ => tRai_len
  omega
theorem tCa_len {w : zW} {k : Nat} : (tCa w k).length ≤ 1060 + 120 * k := by
  unfold tCa
  rw [List.length_append]
  have hs := (l_rains (w := w) (h := zH0)).2
  have h1 := tRn_len (w := w) (k := mRns w)
  have h2 := yfl_len (f := tCal w) (n := k) fun _ => tCal_len
  omega
theorem tSt_ok {w : zW} {k : Nat} (hk : k ≤ 10) : yOk (tSt w k) := ⟨by have := tSt_len (w := w) (k := k); omega, tSt_sm hk⟩
theorem tRn_ok {w : zW} {k : Nat} (hk : k ≤ 10) : yOk (tRn w k) := ⟨by have := tRn_len (w := w) (k := k); omega, tRn_sm hk⟩
theorem tCa_ok {w : zW} {k : Nat} (hk : k ≤ 10) : yOk (tCa w k) := ⟨by have := tCa_len (w := w) (k := k); omega, tCa_sm hk⟩
theorem L_sta {w : zW} {p : Program} {l : Launch} {e : Env} {s : State} {m9 : MethodId} {args : Array Value} {below : List Frame} {meth : Method} {c : Code} {Q : State → Prop} (C : zC w p s m9 args c 3 cL_text RL) (hX : yX w s s.heap) (hN : ∀ q, s.heap.size ≤ q → zA w q)
    (kk : ∀ (q qa : Nat) (g : Nat → Int32), (tSt w (mS w)).length ≤ 100 + 60 * (mS w) → yHs (tSt w (mS w)) g → yS w p l e (zRmi 7 300 300 600000) s m9 args below meth c 3 (13 + 23 * mS w) (28524 + 48124 * mS w) Q 196 [some (.inr (30, zwS w 30)), some (.inr (9, q)), some (.inl ((mS w : Nat) : Int))] [] (yL w (yStr w q qa (tSt w (mS w)).length g ++ []))) :
    ∀ (d k : Nat), k + d = mS w → ∀ (q qa : Nat) (g : Nat → Int32), (tSt w k).length ≤ 100 + 60 * (k) → yHs (tSt w k) g → yS w p l e (zRmi 7 300 300 600000) s m9 args below meth c 3 (13 + 23 * k) (28524 + 48124 * k) Q 77 [some (.inr (30, zwS w 30)), some (.inr (9, q)), some (.inl ((k : Nat) : Int))] [] (yL w (yStr w q qa (tSt w k).length g ++ [])) := by
  intro d
  induction d with
  | zero =>
    intro k hk q qa g hl hg
    obtain rfl : k = mS w := by omega
    have hs := mS_b (w := w)
    refine y_iload_n C dL_text_77 rfl ?_
    refine y_aload_n C dL_text_78 rfl ?_
    refine y_int (k := 1) (As := [.inr (30, zwS w 30)]) (rest := [.inl ((mS w : Nat) : Int)]) (x := ((mS w : Nat) : Int)) C hX dL_text_79 ⟨(zmem 161 (by decide +kernel)), (zmem 162 (by decide +kernel)), (zmem 20 (by decide +kernel)), (zmem 163 (by decide +kernel)), ⟨by decide, by decide⟩, by decide +kernel⟩ (cq_L_stations (zPu w yF) l zH0) ((l_stations (w := w) (h := zH0)).trans (congrArg some mS_b.2.2.symm)) (yAs1 C) rfl ⟨Nat.le_of_ble_eq_true rfl, Nat.le_of_ble_eq_true rfl⟩ ⟨by show _ ≤ 300; omega, by show _ ≤ 600000; omega⟩ ⟨rfl, Nat.le_of_ble_eq_true rfl⟩ ⟨by omega, by omega⟩ yL_stab ?_
    refine y_icmp_ge C dL_text_82 (tgt := 196) (by decide) (fun _ => ?_) (fun c1 => absurd (Int.le_refl _) c1)
    exact kk q qa g hl hg
  | succ d ih =>
    intro k hk q qa g hl hg
    have hs := mS_b (w := w)
    have hk10 : k < 10 := by omega
    have hk100 : k < 100 := by omega
    have hok : yOk (tSt w k) := tSt_ok (by omega)
    have y1 := yLen_b (mDel w k)
    have y2 := yLen_b (iDri w k).natAbs
    have y3 := yLen_b (mNom w k)
    have y4 := yLen_b (mGre w k)
    have f1 := (l_delay (w := w) (h := zH0) hk100).2
    have f2 := (l_nominal (w := w) (h := zH0) hk100).2
    have f3 := (l_greatest (w := w) (h := zH0) hk100).2
    have f4 := (l_drift (w := w) (h := zH0) hk100).2
    have B0 : (ySB.getD 0 []).length = 1 := rfl
    have B1 : (ySB.getD 1 []).length = 9 := rfl
    have B2 : (ySB.getD 2 []).length = 12 := rfl
    have B3 : (ySB.getD 3 []).length = 11 := rfl
    have B4 : (ySB.getD 4 []).length = 11 := rfl
    have B5 : (ySB.getD 5 []).length = 1 := rfl
    have B6 : (ySB.getD 6 []).length = 8 := rfl
    have B7 : (ySB.getD 7 []).length = 1 := rfl
    have B8 : (ySB.getD 8 []).length = 0 := rfl
    have B9 : (ySB.getD 9 []).length = 5 := rfl
    have B10 : (ySB.getD 10 []).length = 5 := rfl
    have B11 : (ySB.getD 11 []).length = 1 := rfl
    refine y_iload_n C dL_text_77 rfl ?_
    refine y_aload_n C dL_text_78 rfl ?_
    refine y_int (k := 1) (As := [.inr (30, zwS w 30)]) (rest := [.inl (k : Int)]) (x := ((mS w : Nat) : Int)) C hX dL_text_79 ⟨(zmem 161 (by decide +kernel)), (zmem 162 (by decide +kernel)), (zmem 20 (by decide +kernel)), (zmem 163 (by decide +kernel)), ⟨by decide, by decide⟩, by decide +kernel⟩ (cq_L_stations (zPu w yF) l zH0) ((l_stations (w := w) (h := zH0)).trans (congrArg some mS_b.2.2.symm)) (yAs1 C) rfl ⟨Nat.le_of_ble_eq_true rfl, Nat.le_of_ble_eq_true rfl⟩ ⟨by show _ ≤ 300; omega, by show _ ≤ 600000; omega⟩ ⟨rfl, Nat.le_of_ble_eq_true rfl⟩ ⟨by omega, by omega⟩ yL_stab ?_
    refine y_icmp_ge C dL_text_82 (tgt := 196) (by decide) (fun c1 => by exfalso; omega) (fun _ => ?_)
    refine y_newSB C hX hN (zmem 464 (by decide +kernel)) (zmem 465 (by decide +kernel)) (zmem 31 (by decide +kernel)) ⟨rfl, (zmem 466 (by decide +kernel)), (zmem 467 (by decide +kernel)), (zmem 31 (by decide +kernel)), (zmem 468 (by decide +kernel)), ⟨by decide, by decide⟩, by decide +kernel⟩ dL_text_85 dL_text_88 dL_text_89 ⟨Nat.le_of_ble_eq_true rfl, Nat.le_of_ble_eq_true rfl⟩ ⟨by show _ ≤ 300; omega, by show _ ≤ 600000; omega⟩ (Nat.le_of_ble_eq_true rfl) (fun b => ?_)
    refine y_aload_n C dL_text_92 rfl ?_
    refine y_to (G' := yBS w b [] ([] ++ (yStr w q qa (tSt w k).length g ++ []))) (fun H h => h) ?_
    refine y_apD (u := tSt w k) (s1 := []) (s2 := []) C hX hN dL_text_93 ⟨(zmem 496 (by decide +kernel)), (zmem 497 (by decide +kernel)), (zmem 498 (by decide +kernel)), (zmem 31 (by decide +kernel)), (zmem 499 (by decide +kernel)), ⟨by decide, by decide⟩, by decide +kernel⟩ hok (by simp only [List.length_append, List.length_nil, List.length_cons, yDig_len, tNm]; omega) rfl hg ⟨Nat.le_of_ble_eq_true rfl, Nat.le_of_ble_eq_true rfl⟩ ⟨by show _ ≤ 300; omega, by show _ ≤ 600000; omega⟩ (Nat.le_of_ble_eq_true rfl) ?_
    refine y_to (G' := yBS w b ([] ++ tSt w k) (yStr w q qa (tSt w k).length g)) (fun H h => h) ?_
    refine y_ldcS (idx := 86) (i := 6) (tx := "station ") C hX rfl dL_text_96 (by decide) ?_
    refine y_apK (i := 6) C hX hN (by decide) dL_text_98 ⟨(zmem 496 (by decide +kernel)), (zmem 497 (by decide +kernel)), (zmem 498 (by decide +kernel)), (zmem 31 (by decide +kernel)), (zmem 499 (by decide +kernel)), ⟨by decide, by decide⟩, by decide +kernel⟩ (by simp only [List.length_append, List.length_nil, List.length_cons, yDig_len, tNm]; omega) ⟨Nat.le_of_ble_eq_true rfl, Nat.le_of_ble_eq_true rfl⟩ ⟨by show _ ≤ 300; omega, by show _ ≤ 600000; omega⟩ (Nat.le_of_ble_eq_true rfl) ?_
    refine y_iload_n C dL_text_101 rfl ?_
    refine y_name (k := k) C hX hN hk10 dL_text_102 ⟨(zmem 710 (by decide +kernel)), (zmem 711 (by decide +kernel)), (zmem 20 (by decide +kernel)), (zmem 712 (by decide +kernel)), ⟨by decide, by decide⟩, by decide +kernel⟩ ⟨Nat.le_of_ble_eq_true rfl, Nat.le_of_ble_eq_true rfl⟩ ⟨by show _ ≤ 300; omega, by show _ ≤ 600000; omega⟩ (Nat.le_of_ble_eq_true rfl) (fun q2 qa2 g2 hg2 => ?_)
    refine y_to (G' := yBS w b ((([] ++ tSt w k) ++ ySB.getD 6 [])) ([] ++ (yStr w q2 qa2 2 g2 ++ yStr w q qa (tSt w k).length g))) (fun H h => h) ?_
    refine y_apD (u := tNm k) (s1 := []) (s2 := yStr w q qa (tSt w k).length g) C hX hN dL_text_105 ⟨(zmem 496 (by decide +kernel)), (zmem 497 (by decide +kernel)), (zmem 498 (by decide +kernel)), (zmem 31 (by decide +kernel)), (zmem 499 (by decide +kernel)), ⟨by decide, by decide⟩, by decide +kernel⟩ (tNm_ok hk10) (by simp only [List.length_append, List.length_nil, List.length_cons, yDig_len, tNm]; omega) rfl hg2 ⟨Nat.le_of_ble_eq_true rfl, Nat.le_of_ble_eq_true rfl⟩ ⟨by show _ ≤ 300; omega, by show _ ≤ 600000; omega⟩ (Nat.le_of_ble_eq_true rfl) ?_
    refine y_to (G' := yBS w b ((([] ++ tSt w k) ++ ySB.getD 6 []) ++ tNm k) (yStr w q qa (tSt w k).length g)) (fun H h => yBS_drop (a := yStr w q2 qa2 2 g2) h) ?_
    refine y_ldcS (idx := 21) (i := 0) (tx := " ") C hX rfl dL_text_108 (by decide) ?_
    refine y_apK (i := 0) C hX hN (by decide) dL_text_110 ⟨(zmem 496 (by decide +kernel)), (zmem 497 (by decide +kernel)), (zmem 498 (by decide +kernel)), (zmem 31 (by decide +kernel)), (zmem 499 (by decide +kernel)), ⟨by decide, by decide⟩, by decide +kernel⟩ (by simp only [List.length_append, List.length_nil, List.length_cons, yDig_len, tNm]; omega) ⟨Nat.le_of_ble_eq_true rfl, Nat.le_of_ble_eq_true rfl⟩ ⟨by show _ ≤ 300; omega, by show _ ≤ 600000; omega⟩ (Nat.le_of_ble_eq_true rfl) ?_
    refine y_aload_n C dL_text_113 rfl ?_
    refine y_iload_n C dL_text_114 rfl ?_
    refine y_int (k := 2) (As := [.inr (30, zwS w 30), .inl (k : Int)]) (rest := [.inr (8, b)]) (x := ((mDel w k : Nat) : Int)) C hX dL_text_115 ⟨(zmem 737 (by decide +kernel)), (zmem 738 (by decide +kernel)), (zmem 20 (by decide +kernel)), (zmem 739 (by decide +kernel)), ⟨by decide, by decide⟩, by decide +kernel⟩ (cq_L_delay (zPu w yF) l zH0 (k : Int)) ((l_delay (w := w) (h := zH0) hk100).1) (yAs2 C) rfl ⟨Nat.le_of_ble_eq_true rfl, Nat.le_of_ble_eq_true rfl⟩ ⟨by show _ ≤ 300; omega, by show _ ≤ 600000; omega⟩ ⟨rfl, Nat.le_of_ble_eq_true rfl⟩ ⟨by omega, by omega⟩ yBS_stab ?_
    refine y_apN (k := 1) (As := [.inl (((mDel w k) : Nat) : Int)]) (rest := []) (u := yDig (mDel w k)) C hX hN rfl dL_text_118 ⟨(zmem 614 (by decide +kernel)), (zmem 615 (by decide +kernel)), (zmem 616 (by decide +kernel)), (zmem 31 (by decide +kernel)), (zmem 617 (by decide +kernel)), ⟨by decide, by decide⟩, by decide +kernel⟩ (fun wc da m0 f hh => c_J4_appendI wc l b da m0 _ f (mDel w k) (by omega) hh (by simp only [List.length_append, List.length_nil, List.length_cons, yDig_len, tNm]; omega)) rfl ⟨Nat.le_of_ble_eq_true rfl, Nat.le_of_ble_eq_true rfl⟩ ⟨by show _ ≤ 300; omega, by show _ ≤ 600000; omega⟩ ⟨rfl, Nat.le_of_ble_eq_true rfl⟩ ?_
    refine y_ldcS (idx := 21) (i := 0) (tx := " ") C hX rfl dL_text_121 (by decide) ?_
    refine y_apK (i := 0) C hX hN (by decide) dL_text_123 ⟨(zmem 496 (by decide +kernel)), (zmem 497 (by decide +kernel)), (zmem 498 (by decide +kernel)), (zmem 31 (by decide +kernel)), (zmem 499 (by decide +kernel)), ⟨by decide, by decide⟩, by decide +kernel⟩ (by simp only [List.length_append, List.length_nil, List.length_cons, yDig_len, tNm]; omega) ⟨Nat.le_of_ble_eq_true rfl, Nat.le_of_ble_eq_true rfl⟩ ⟨by show _ ≤ 300; omega, by show _ ≤ 600000; omega⟩ (Nat.le_of_ble_eq_true rfl) ?_
    refine y_aload_n C dL_text_126 rfl ?_
    refine y_iload_n C dL_text_127 rfl ?_
    refine y_int (k := 2) (As := [.inr (30, zwS w 30), .inl (k : Int)]) (rest := [.inr (8, b)]) (x := iDri w k) C hX dL_text_128 ⟨(zmem 740 (by decide +kernel)), (zmem 741 (by decide +kernel)), (zmem 20 (by decide +kernel)), (zmem 742 (by decide +kernel)), ⟨by decide, by decide⟩, by decide +kernel⟩ (cq_L_drift (zPu w yF) l zH0 (k : Int)) ((l_drift (w := w) (h := zH0) hk100).1) (yAs2 C) rfl ⟨Nat.le_of_ble_eq_true rfl, Nat.le_of_ble_eq_true rfl⟩ ⟨by show _ ≤ 300; omega, by show _ ≤ 600000; omega⟩ ⟨rfl, Nat.le_of_ble_eq_true rfl⟩ ⟨by omega, by omega⟩ yBS_stab ?_
    have hdr := l_drift (w := w) (h := zH0) hk100
    refine y_if_ge C dL_text_131 (tgt := 139) (by decide) (fun c1 => ?_) (fun c1 => ?_)
    · refine y_ldcS (idx := 100) (i := 8) (tx := "") C hX rfl dL_text_139 (by decide) ?_
      refine y_apK (i := 8) C hX hN (by decide) dL_text_141 ⟨(zmem 496 (by decide +kernel)), (zmem 497 (by decide +kernel)), (zmem 498 (by decide +kernel)), (zmem 31 (by decide +kernel)), (zmem 499 (by decide +kernel)), ⟨by decide, by decide⟩, by decide +kernel⟩ (by simp only [List.length_append, List.length_nil, List.length_cons, yDig_len, tNm]; omega) ⟨Nat.le_of_ble_eq_true rfl, Nat.le_of_ble_eq_true rfl⟩ ⟨by show _ ≤ 300; omega, by show _ ≤ 600000; omega⟩ (Nat.le_of_ble_eq_true rfl) ?_
      refine y_aload_n C dL_text_144 rfl ?_
      refine y_iload_n C dL_text_145 rfl ?_
      refine y_int (k := 2) (As := [.inr (30, zwS w 30), .inl (k : Int)]) (rest := [.inr (8, b)]) (x := iDri w k) C hX dL_text_146 ⟨(zmem 740 (by decide +kernel)), (zmem 741 (by decide +kernel)), (zmem 20 (by decide +kernel)), (zmem 742 (by decide +kernel)), ⟨by decide, by decide⟩, by decide +kernel⟩ (cq_L_drift (zPu w yF) l zH0 (k : Int)) ((l_drift (w := w) (h := zH0) hk100).1) (yAs2 C) rfl ⟨Nat.le_of_ble_eq_true rfl, Nat.le_of_ble_eq_true rfl⟩ ⟨by show _ ≤ 300; omega, by show _ ≤ 600000; omega⟩ ⟨rfl, Nat.le_of_ble_eq_true rfl⟩ ⟨by omega, by omega⟩ yBS_stab ?_
      refine y_mabs C dL_text_149 (zmem 745 (by decide +kernel)) ⟨Nat.le_of_ble_eq_true rfl, Nat.le_of_ble_eq_true rfl⟩ ⟨by show _ ≤ 300; omega, by show _ ≤ 600000; omega⟩ ?_
      refine y_num (y := (((iDri w k).natAbs : Nat) : Int)) (by unfold zabs; rw [if_pos (by omega)]; omega) ?_
      refine y_apN (k := 1) (As := [.inl (((iDri w k).natAbs : Nat) : Int)]) (rest := []) (u := yDig (iDri w k).natAbs) C hX hN rfl dL_text_152 ⟨(zmem 614 (by decide +kernel)), (zmem 615 (by decide +kernel)), (zmem 616 (by decide +kernel)), (zmem 31 (by decide +kernel)), (zmem 617 (by decide +kernel)), ⟨by decide, by decide⟩, by decide +kernel⟩ (fun wc da m0 f hh => c_J4_appendI wc l b da m0 _ f (iDri w k).natAbs (by omega) hh (by simp only [List.length_append, List.length_nil, List.length_cons, yDig_len, tNm]; omega)) rfl ⟨Nat.le_of_ble_eq_true rfl, Nat.le_of_ble_eq_true rfl⟩ ⟨by show _ ≤ 300; omega, by show _ ≤ 600000; omega⟩ ⟨rfl, Nat.le_of_ble_eq_true rfl⟩ ?_
      refine y_ldcS (idx := 21) (i := 0) (tx := " ") C hX rfl dL_text_155 (by decide) ?_
      refine y_apK (i := 0) C hX hN (by decide) dL_text_157 ⟨(zmem 496 (by decide +kernel)), (zmem 497 (by decide +kernel)), (zmem 498 (by decide +kernel)), (zmem 31 (by decide +kernel)), (zmem 499 (by decide +kernel)), ⟨by decide, by decide⟩, by decide +kernel⟩ (by simp only [List.length_append, List.length_nil, List.length_cons, yDig_len, tNm]; omega) ⟨Nat.le_of_ble_eq_true rfl, Nat.le_of_ble_eq_true rfl⟩ ⟨by show _ ≤ 300; omega, by show _ ≤ 600000; omega⟩ (Nat.le_of_ble_eq_true rfl) ?_
      refine y_aload_n C dL_text_160 rfl ?_
      refine y_iload_n C dL_text_161 rfl ?_
      refine y_int (k := 2) (As := [.inr (30, zwS w 30), .inl (k : Int)]) (rest := [.inr (8, b)]) (x := ((mNom w k : Nat) : Int)) C hX dL_text_162 ⟨(zmem 748 (by decide +kernel)), (zmem 749 (by decide +kernel)), (zmem 20 (by decide +kernel)), (zmem 750 (by decide +kernel)), ⟨by decide, by decide⟩, by decide +kernel⟩ (cq_L_nominal (zPu w yF) l zH0 (k : Int)) ((l_nominal (w := w) (h := zH0) hk100).1) (yAs2 C) rfl ⟨Nat.le_of_ble_eq_true rfl, Nat.le_of_ble_eq_true rfl⟩ ⟨by show _ ≤ 300; omega, by show _ ≤ 600000; omega⟩ ⟨rfl, Nat.le_of_ble_eq_true rfl⟩ ⟨by omega, by omega⟩ yBS_stab ?_
      refine y_apN (k := 1) (As := [.inl (((mNom w k) : Nat) : Int)]) (rest := []) (u := yDig (mNom w k)) C hX hN rfl dL_text_165 ⟨(zmem 614 (by decide +kernel)), (zmem 615 (by decide +kernel)), (zmem 616 (by decide +kernel)), (zmem 31 (by decide +kernel)), (zmem 617 (by decide +kernel)), ⟨by decide, by decide⟩, by decide +kernel⟩ (fun wc da m0 f hh => c_J4_appendI wc l b da m0 _ f (mNom w k) (by omega) hh (by simp only [List.length_append, List.length_nil, List.length_cons, yDig_len, tNm]; omega)) rfl ⟨Nat.le_of_ble_eq_true rfl, Nat.le_of_ble_eq_true rfl⟩ ⟨by show _ ≤ 300; omega, by show _ ≤ 600000; omega⟩ ⟨rfl, Nat.le_of_ble_eq_true rfl⟩ ?_
      refine y_ldcS (idx := 21) (i := 0) (tx := " ") C hX rfl dL_text_168 (by decide) ?_
      refine y_apK (i := 0) C hX hN (by decide) dL_text_170 ⟨(zmem 496 (by decide +kernel)), (zmem 497 (by decide +kernel)), (zmem 498 (by decide +kernel)), (zmem 31 (by decide +kernel)), (zmem 499 (by decide +kernel)), ⟨by decide, by decide⟩, by decide +kernel⟩ (by simp only [List.length_append, List.length_nil, List.length_cons, yDig_len, tNm]; omega) ⟨Nat.le_of_ble_eq_true rfl, Nat.le_of_ble_eq_true rfl⟩ ⟨by show _ ≤ 300; omega, by show _ ≤ 600000; omega⟩ (Nat.le_of_ble_eq_true rfl) ?_
      refine y_aload_n C dL_text_173 rfl ?_
      refine y_iload_n C dL_text_174 rfl ?_
      refine y_int (k := 2) (As := [.inr (30, zwS w 30), .inl (k : Int)]) (rest := [.inr (8, b)]) (x := ((mGre w k : Nat) : Int)) C hX dL_text_175 ⟨(zmem 751 (by decide +kernel)), (zmem 752 (by decide +kernel)), (zmem 20 (by decide +kernel)), (zmem 753 (by decide +kernel)), ⟨by decide, by decide⟩, by decide +kernel⟩ (cq_L_greatest (zPu w yF) l zH0 (k : Int)) ((l_greatest (w := w) (h := zH0) hk100).1) (yAs2 C) rfl ⟨Nat.le_of_ble_eq_true rfl, Nat.le_of_ble_eq_true rfl⟩ ⟨by show _ ≤ 300; omega, by show _ ≤ 600000; omega⟩ ⟨rfl, Nat.le_of_ble_eq_true rfl⟩ ⟨by omega, by omega⟩ yBS_stab ?_
      refine y_apN (k := 1) (As := [.inl (((mGre w k) : Nat) : Int)]) (rest := []) (u := yDig (mGre w k)) C hX hN rfl dL_text_178 ⟨(zmem 614 (by decide +kernel)), (zmem 615 (by decide +kernel)), (zmem 616 (by decide +kernel)), (zmem 31 (by decide +kernel)), (zmem 617 (by decide +kernel)), ⟨by decide, by decide⟩, by decide +kernel⟩ (fun wc da m0 f hh => c_J4_appendI wc l b da m0 _ f (mGre w k) (by omega) hh (by simp only [List.length_append, List.length_nil, List.length_cons, yDig_len, tNm]; omega)) rfl ⟨Nat.le_of_ble_eq_true rfl, Nat.le_of_ble_eq_true rfl⟩ ⟨by show _ ≤ 300; omega, by show _ ≤ 600000; omega⟩ ⟨rfl, Nat.le_of_ble_eq_true rfl⟩ ?_
      refine y_ldcS (idx := 84) (i := 5) (tx := ";") C hX rfl dL_text_181 (by decide) ?_
      refine y_apK (i := 5) C hX hN (by decide) dL_text_183 ⟨(zmem 496 (by decide +kernel)), (zmem 497 (by decide +kernel)), (zmem 498 (by decide +kernel)), (zmem 31 (by decide +kernel)), (zmem 499 (by decide +kernel)), ⟨by decide, by decide⟩, by decide +kernel⟩ (by simp only [List.length_append, List.length_nil, List.length_cons, yDig_len, tNm]; omega) ⟨Nat.le_of_ble_eq_true rfl, Nat.le_of_ble_eq_true rfl⟩ ⟨by show _ ≤ 300; omega, by show _ ≤ 600000; omega⟩ (Nat.le_of_ble_eq_true rfl) ?_
      refine y_toS C hX hN dL_text_186 ⟨(zmem 649 (by decide +kernel)), (zmem 650 (by decide +kernel)), (zmem 651 (by decide +kernel)), (zmem 31 (by decide +kernel)), (zmem 652 (by decide +kernel)), ⟨by decide, by decide⟩, by decide +kernel⟩ (by simp only [List.length_append, List.length_nil, List.length_cons, yDig_len, tNm]; omega) ⟨Nat.le_of_ble_eq_true rfl, Nat.le_of_ble_eq_true rfl⟩ ⟨by show _ ≤ 300; omega, by show _ ≤ 600000; omega⟩ (Nat.le_of_ble_eq_true rfl) (fun q3 qa3 g3 hg3 => ?_)
      refine y_astore_n C dL_text_189 (by decide) ?_
      refine y_iinc C dL_text_190 rfl (by decide) ?_
      rw [show zw ((k : Int) + 1) = ((k + 1 : Nat) : Int) by rw [zw_id ⟨by omega, by omega⟩]; omega]
      refine y_goto C dL_text_193 (tgt := 77) (by decide) ?_
      have eT : ((((((((((((([] ++ tSt w k) ++ ySB.getD 6 []) ++ tNm k) ++ ySB.getD 0 []) ++ yDig (mDel w k)) ++ ySB.getD 0 []) ++ ySB.getD 8 []) ++ yDig (iDri w k).natAbs) ++ ySB.getD 0 []) ++ yDig (mNom w k)) ++ ySB.getD 0 []) ++ yDig (mGre w k)) ++ ySB.getD 5 []) = tSt w (k + 1) := by
        rw [tSt_s]; unfold tSta; rw [if_neg (by omega)]; simp only [List.append_assoc, List.nil_append]
      rw [eT] at hg3 ⊢
      refine y_to (G' := yL w (yStr w q3 qa3 (tSt w (k + 1)).length g3 ++ [])) (fun H h => yL_left h) ?_
      have hl3 : (tSt w (k + 1)).length ≤ 100 + 60 * (k + 1) := by rw [← eT]; simp only [List.length_append, List.length_nil, List.length_cons, yDig_len, tNm]; omega
      exact y_widen (by omega) (by omega) (ih (k + 1) (by omega) q3 qa3 g3 hl3 hg3)
    · refine y_ldcS (idx := 98) (i := 7) (tx := "-") C hX rfl dL_text_134 (by decide) ?_
      refine y_goto C dL_text_136 (tgt := 141) (by decide) ?_
      refine y_apK (i := 7) C hX hN (by decide) dL_text_141 ⟨(zmem 496 (by decide +kernel)), (zmem 497 (by decide +kernel)), (zmem 498 (by decide +kernel)), (zmem 31 (by decide +kernel)), (zmem 499 (by decide +kernel)), ⟨by decide, by decide⟩, by decide +kernel⟩ (by simp only [List.length_append, List.length_nil, List.length_cons, yDig_len, tNm]; omega) ⟨Nat.le_of_ble_eq_true rfl, Nat.le_of_ble_eq_true rfl⟩ ⟨by show _ ≤ 300; omega, by show _ ≤ 600000; omega⟩ (Nat.le_of_ble_eq_true rfl) ?_
      refine y_aload_n C dL_text_144 rfl ?_
      refine y_iload_n C dL_text_145 rfl ?_
      refine y_int (k := 2) (As := [.inr (30, zwS w 30), .inl (k : Int)]) (rest := [.inr (8, b)]) (x := iDri w k) C hX dL_text_146 ⟨(zmem 740 (by decide +kernel)), (zmem 741 (by decide +kernel)), (zmem 20 (by decide +kernel)), (zmem 742 (by decide +kernel)), ⟨by decide, by decide⟩, by decide +kernel⟩ (cq_L_drift (zPu w yF) l zH0 (k : Int)) ((l_drift (w := w) (h := zH0) hk100).1) (yAs2 C) rfl ⟨Nat.le_of_ble_eq_true rfl, Nat.le_of_ble_eq_true rfl⟩ ⟨by show _ ≤ 300; omega, by show _ ≤ 600000; omega⟩ ⟨rfl, Nat.le_of_ble_eq_true rfl⟩ ⟨by omega, by omega⟩ yBS_stab ?_
      refine y_mabs C dL_text_149 (zmem 745 (by decide +kernel)) ⟨Nat.le_of_ble_eq_true rfl, Nat.le_of_ble_eq_true rfl⟩ ⟨by show _ ≤ 300; omega, by show _ ≤ 600000; omega⟩ ?_
      refine y_num (y := (((iDri w k).natAbs : Nat) : Int)) (by unfold zabs; rw [if_neg (by omega), zw_id ⟨by omega, by omega⟩]; omega) ?_
      refine y_apN (k := 1) (As := [.inl (((iDri w k).natAbs : Nat) : Int)]) (rest := []) (u := yDig (iDri w k).natAbs) C hX hN rfl dL_text_152 ⟨(zmem 614 (by decide +kernel)), (zmem 615 (by decide +kernel)), (zmem 616 (by decide +kernel)), (zmem 31 (by decide +kernel)), (zmem 617 (by decide +kernel)), ⟨by decide, by decide⟩, by decide +kernel⟩ (fun wc da m0 f hh => c_J4_appendI wc l b da m0 _ f (iDri w k).natAbs (by omega) hh (by simp only [List.length_append, List.length_nil, List.length_cons, yDig_len, tNm]; omega)) rfl ⟨Nat.le_of_ble_eq_true rfl, Nat.le_of_ble_eq_true rfl⟩ ⟨by show _ ≤ 300; omega, by show _ ≤ 600000; omega⟩ ⟨rfl, Nat.le_of_ble_eq_true rfl⟩ ?_
      refine y_ldcS (idx := 21) (i := 0) (tx := " ") C hX rfl dL_text_155 (by decide) ?_
      refine y_apK (i := 0) C hX hN (by decide) dL_text_157 ⟨(zmem 496 (by decide +kernel)), (zmem 497 (by decide +kernel)), (zmem 498 (by decide +kernel)), (zmem 31 (by decide +kernel)), (zmem 499 (by decide +kernel)), ⟨by decide, by decide⟩, by decide +kernel⟩ (by simp only [List.length_append, List.length_nil, List.length_cons, yDig_len, tNm]; omega) ⟨Nat.le_of_ble_eq_true rfl, Nat.le_of_ble_eq_true rfl⟩ ⟨by show _ ≤ 300; omega, by show _ ≤ 600000; omega⟩ (Nat.le_of_ble_eq_true rfl) ?_
      refine y_aload_n C dL_text_160 rfl ?_
      refine y_iload_n C dL_text_161 rfl ?_
      refine y_int (k := 2) (As := [.inr (30, zwS w 30), .inl (k : Int)]) (rest := [.inr (8, b)]) (x := ((mNom w k : Nat) : Int)) C hX dL_text_162 ⟨(zmem 748 (by decide +kernel)), (zmem 749 (by decide +kernel)), (zmem 20 (by decide +kernel)), (zmem 750 (by decide +kernel)), ⟨by decide, by decide⟩, by decide +kernel⟩ (cq_L_nominal (zPu w yF) l zH0 (k : Int)) ((l_nominal (w := w) (h := zH0) hk100).1) (yAs2 C) rfl ⟨Nat.le_of_ble_eq_true rfl, Nat.le_of_ble_eq_true rfl⟩ ⟨by show _ ≤ 300; omega, by show _ ≤ 600000; omega⟩ ⟨rfl, Nat.le_of_ble_eq_true rfl⟩ ⟨by omega, by omega⟩ yBS_stab ?_
      refine y_apN (k := 1) (As := [.inl (((mNom w k) : Nat) : Int)]) (rest := []) (u := yDig (mNom w k)) C hX hN rfl dL_text_165 ⟨(zmem 614 (by decide +kernel)), (zmem 615 (by decide +kernel)), (zmem 616 (by decide +kernel)), (zmem 31 (by decide +kernel)), (zmem 617 (by decide +kernel)), ⟨by decide, by decide⟩, by decide +kernel⟩ (fun wc da m0 f hh => c_J4_appendI wc l b da m0 _ f (mNom w k) (by omega) hh (by simp only [List.length_append, List.length_nil, List.length_cons, yDig_len, tNm]; omega)) rfl ⟨Nat.le_of_ble_eq_true rfl, Nat.le_of_ble_eq_true rfl⟩ ⟨by show _ ≤ 300; omega, by show _ ≤ 600000; omega⟩ ⟨rfl, Nat.le_of_ble_eq_true rfl⟩ ?_
      refine y_ldcS (idx := 21) (i := 0) (tx := " ") C hX rfl dL_text_168 (by decide) ?_
      refine y_apK (i := 0) C hX hN (by decide) dL_text_170 ⟨(zmem 496 (by decide +kernel)), (zmem 497 (by decide +kernel)), (zmem 498 (by decide +kernel)), (zmem 31 (by decide +kernel)), (zmem 499 (by decide +kernel)), ⟨by decide, by decide⟩, by decide +kernel⟩ (by simp only [List.length_append, List.length_nil, List.length_cons, yDig_len, tNm]; omega) ⟨Nat.le_of_ble_eq_true rfl, Nat.le_of_ble_eq_true rfl⟩ ⟨by show _ ≤ 300; omega, by show _ ≤ 600000; omega⟩ (Nat.le_of_ble_eq_true rfl) ?_
      refine y_aload_n C dL_text_173 rfl ?_
      refine y_iload_n C dL_text_174 rfl ?_
      refine y_int (k := 2) (As := [.inr (30, zwS w 30), .inl (k : Int)]) (rest := [.inr (8, b)]) (x := ((mGre w k : Nat) : Int)) C hX dL_text_175 ⟨(zmem 751 (by decide +kernel)), (zmem 752 (by decide +kernel)), (zmem 20 (by decide +kernel)), (zmem 753 (by decide +kernel)), ⟨by decide, by decide⟩, by decide +kernel⟩ (cq_L_greatest (zPu w yF) l zH0 (k : Int)) ((l_greatest (w := w) (h := zH0) hk100).1) (yAs2 C) rfl ⟨Nat.le_of_ble_eq_true rfl, Nat.le_of_ble_eq_true rfl⟩ ⟨by show _ ≤ 300; omega, by show _ ≤ 600000; omega⟩ ⟨rfl, Nat.le_of_ble_eq_true rfl⟩ ⟨by omega, by omega⟩ yBS_stab ?_
      refine y_apN (k := 1) (As := [.inl (((mGre w k) : Nat) : Int)]) (rest := []) (u := yDig (mGre w k)) C hX hN rfl dL_text_178 ⟨(zmem 614 (by decide +kernel)), (zmem 615 (by decide +kernel)), (zmem 616 (by decide +kernel)), (zmem 31 (by decide +kernel)), (zmem 617 (by decide +kernel)), ⟨by decide, by decide⟩, by decide +kernel⟩ (fun wc da m0 f hh => c_J4_appendI wc l b da m0 _ f (mGre w k) (by omega) hh (by simp only [List.length_append, List.length_nil, List.length_cons, yDig_len, tNm]; omega)) rfl ⟨Nat.le_of_ble_eq_true rfl, Nat.le_of_ble_eq_true rfl⟩ ⟨by show _ ≤ 300; omega, by show _ ≤ 600000; omega⟩ ⟨rfl, Nat.le_of_ble_eq_true rfl⟩ ?_
      refine y_ldcS (idx := 84) (i := 5) (tx := ";") C hX rfl dL_text_181 (by decide) ?_
      refine y_apK (i := 5) C hX hN (by decide) dL_text_183 ⟨(zmem 496 (by decide +kernel)), (zmem 497 (by decide +kernel)), (zmem 498 (by decide +kernel)), (zmem 31 (by decide +kernel)), (zmem 499 (by decide +kernel)), ⟨by decide, by decide⟩, by decide +kernel⟩ (by simp only [List.length_append, List.length_nil, List.length_cons, yDig_len, tNm]; omega) ⟨Nat.le_of_ble_eq_true rfl, Nat.le_of_ble_eq_true rfl⟩ ⟨by show _ ≤ 300; omega, by show _ ≤ 600000; omega⟩ (Nat.le_of_ble_eq_true rfl) ?_
      refine y_toS C hX hN dL_text_186 ⟨(zmem 649 (by decide +kernel)), (zmem 650 (by decide +kernel)), (zmem 651 (by decide +kernel)), (zmem 31 (by decide +kernel)), (zmem 652 (by decide +kernel)), ⟨by decide, by decide⟩, by decide +kernel⟩ (by simp only [List.length_append, List.length_nil, List.length_cons, yDig_len, tNm]; omega) ⟨Nat.le_of_ble_eq_true rfl, Nat.le_of_ble_eq_true rfl⟩ ⟨by show _ ≤ 300; omega, by show _ ≤ 600000; omega⟩ (Nat.le_of_ble_eq_true rfl) (fun q3 qa3 g3 hg3 => ?_)
      refine y_astore_n C dL_text_189 (by decide) ?_
      refine y_iinc C dL_text_190 rfl (by decide) ?_
      rw [show zw ((k : Int) + 1) = ((k + 1 : Nat) : Int) by rw [zw_id ⟨by omega, by omega⟩]; omega]
      refine y_goto C dL_text_193 (tgt := 77) (by decide) ?_
      have eT : ((((((((((((([] ++ tSt w k) ++ ySB.getD 6 []) ++ tNm k) ++ ySB.getD 0 []) ++ yDig (mDel w k)) ++ ySB.getD 0 []) ++ ySB.getD 7 []) ++ yDig (iDri w k).natAbs) ++ ySB.getD 0 []) ++ yDig (mNom w k)) ++ ySB.getD 0 []) ++ yDig (mGre w k)) ++ ySB.getD 5 []) = tSt w (k + 1) := by
        rw [tSt_s]; unfold tSta; rw [if_pos (by omega)]; simp only [List.append_assoc, List.nil_append]
      rw [eT] at hg3 ⊢
      refine y_to (G' := yL w (yStr w q3 qa3 (tSt w (k + 1)).length g3 ++ [])) (fun H h => yL_left h) ?_
      have hl3 : (tSt w (k + 1)).length ≤ 100 + 60 * (k + 1) := by rw [← eT]; simp only [List.length_append, List.length_nil, List.length_cons, yDig_len, tNm]; omega
      exact y_widen (by omega) (by omega) (ih (k + 1) (by omega) q3 qa3 g3 hl3 hg3)
theorem L_rai {w : zW} {p : Program} {l : Launch} {e : Env} {s : State} {m9 : MethodId} {args : Array Value} {below : List Frame} {meth : Method} {c : Code} {Q : State → Prop} (C : zC w p s m9 args c 3 cL_text RL) (hX : yX w s s.heap) (hN : ∀ q, s.heap.size ≤ q → zA w q)
    (kk : ∀ (q qa : Nat) (g : Nat → Int32), (tRn w (mRns w)).length ≤ 400 + 60 * (mRns w) → yHs (tRn w (mRns w)) g → yS w p l e (zRmi 7 300 300 600000) s m9 args below meth c 3 (128 + 20 * mRns w) (269144 + 39124 * mRns w) Q 291 [some (.inr (30, zwS w 30)), some (.inr (9, q)), some (.inl ((mRns w : Nat) : Int))] [] (yL w (yStr w q qa (tRn w (mRns w)).length g ++ []))) :
    ∀ (d k : Nat), k + d = mRns w → ∀ (q qa : Nat) (g : Nat → Int32), (tRn w k).length ≤ 400 + 60 * (k) → yHs (tRn w k) g → yS w p l e (zRmi 7 300 300 600000) s m9 args below meth c 3 (128 + 20 * k) (269144 + 39124 * k) Q 198 [some (.inr (30, zwS w 30)), some (.inr (9, q)), some (.inl ((k : Nat) : Int))] [] (yL w (yStr w q qa (tRn w k).length g ++ [])) := by
  intro d
  induction d with
  | zero =>
    intro k hk q qa g hl hg
    obtain rfl : k = mRns w := by omega
    have hs := mS_b (w := w)
    have hr := (l_rains (w := w) (h := zH0)).2
    refine y_iload_n C dL_text_198 rfl ?_
    refine y_aload_n C dL_text_199 rfl ?_
    refine y_int (k := 1) (As := [.inr (30, zwS w 30)]) (rest := [.inl ((mRns w : Nat) : Int)]) (x := ((mRns w : Nat) : Int)) C hX dL_text_200 ⟨(zmem 754 (by decide +kernel)), (zmem 755 (by decide +kernel)), (zmem 20 (by decide +kernel)), (zmem 756 (by decide +kernel)), ⟨by decide, by decide⟩, by decide +kernel⟩ (cq_L_rains (zPu w yF) l zH0) ((l_rains (w := w) (h := zH0)).1) (yAs1 C) rfl ⟨Nat.le_of_ble_eq_true rfl, Nat.le_of_ble_eq_true rfl⟩ ⟨by show _ ≤ 300; omega, by show _ ≤ 600000; omega⟩ ⟨rfl, Nat.le_of_ble_eq_true rfl⟩ ⟨by omega, by omega⟩ yL_stab ?_
    refine y_icmp_ge C dL_text_203 (tgt := 291) (by decide) (fun _ => ?_) (fun c1 => absurd (Int.le_refl _) c1)
    exact kk q qa g hl hg
  | succ d ih =>
    intro k hk q qa g hl hg
    have hs := mS_b (w := w)
    have hr := (l_rains (w := w) (h := zH0)).2
    have hk90 : k < 90 := by omega
    have f1 := (l_rain (w := w) (h := zH0) hk90).2
    have hk10 : mRn w k 0 < 10 := by omega
    have hok : yOk (tRn w k) := tRn_ok (by omega)
    have y1 := yLen_b (mRn w k 1)
    have y2 := yLen_b (mRn w k 2)
    have y3 := yLen_b (mRn w k 3)
    have B0 : (ySB.getD 0 []).length = 1 := rfl
    have B1 : (ySB.getD 1 []).length = 9 := rfl
    have B2 : (ySB.getD 2 []).length = 12 := rfl
    have B3 : (ySB.getD 3 []).length = 11 := rfl
    have B4 : (ySB.getD 4 []).length = 11 := rfl
    have B5 : (ySB.getD 5 []).length = 1 := rfl
    have B6 : (ySB.getD 6 []).length = 8 := rfl
    have B7 : (ySB.getD 7 []).length = 1 := rfl
    have B8 : (ySB.getD 8 []).length = 0 := rfl
    have B9 : (ySB.getD 9 []).length = 5 := rfl
    have B10 : (ySB.getD 10 []).length = 5 := rfl
    have B11 : (ySB.getD 11 []).length = 1 := rfl
    refine y_iload_n C dL_text_198 rfl ?_
    refine y_aload_n C dL_text_199 rfl ?_
    refine y_int (k := 1) (As := [.inr (30, zwS w 30)]) (rest := [.inl (k : Int)]) (x := ((mRns w : Nat) : Int)) C hX dL_text_200 ⟨(zmem 754 (by decide +kernel)), (zmem 755 (by decide +kernel)), (zmem 20 (by decide +kernel)), (zmem 756 (by decide +kernel)), ⟨by decide, by decide⟩, by decide +kernel⟩ (cq_L_rains (zPu w yF) l zH0) ((l_rains (w := w) (h := zH0)).1) (yAs1 C) rfl ⟨Nat.le_of_ble_eq_true rfl, Nat.le_of_ble_eq_true rfl⟩ ⟨by show _ ≤ 300; omega, by show _ ≤ 600000; omega⟩ ⟨rfl, Nat.le_of_ble_eq_true rfl⟩ ⟨by omega, by omega⟩ yL_stab ?_
    refine y_icmp_ge C dL_text_203 (tgt := 291) (by decide) (fun c1 => by exfalso; omega) (fun _ => ?_)
    refine y_newSB C hX hN (zmem 464 (by decide +kernel)) (zmem 465 (by decide +kernel)) (zmem 31 (by decide +kernel)) ⟨rfl, (zmem 466 (by decide +kernel)), (zmem 467 (by decide +kernel)), (zmem 31 (by decide +kernel)), (zmem 468 (by decide +kernel)), ⟨by decide, by decide⟩, by decide +kernel⟩ dL_text_206 dL_text_209 dL_text_210 ⟨Nat.le_of_ble_eq_true rfl, Nat.le_of_ble_eq_true rfl⟩ ⟨by show _ ≤ 300; omega, by show _ ≤ 600000; omega⟩ (Nat.le_of_ble_eq_true rfl) (fun b => ?_)
    refine y_aload_n C dL_text_213 rfl ?_
    refine y_to (G' := yBS w b [] ([] ++ (yStr w q qa (tRn w k).length g ++ []))) (fun H h => h) ?_
    refine y_apD (u := tRn w k) (s1 := []) (s2 := []) C hX hN dL_text_214 ⟨(zmem 496 (by decide +kernel)), (zmem 497 (by decide +kernel)), (zmem 498 (by decide +kernel)), (zmem 31 (by decide +kernel)), (zmem 499 (by decide +kernel)), ⟨by decide, by decide⟩, by decide +kernel⟩ hok (by simp only [List.length_append, List.length_nil, List.length_cons, yDig_len, tNm]; omega) rfl hg ⟨Nat.le_of_ble_eq_true rfl, Nat.le_of_ble_eq_true rfl⟩ ⟨by show _ ≤ 300; omega, by show _ ≤ 600000; omega⟩ (Nat.le_of_ble_eq_true rfl) ?_
    refine y_to (G' := yBS w b ([] ++ tRn w k) (yStr w q qa (tRn w k).length g)) (fun H h => h) ?_
    refine y_ldcS (idx := 114) (i := 9) (tx := "rain ") C hX rfl dL_text_217 (by decide) ?_
    refine y_apK (i := 9) C hX hN (by decide) dL_text_219 ⟨(zmem 496 (by decide +kernel)), (zmem 497 (by decide +kernel)), (zmem 498 (by decide +kernel)), (zmem 31 (by decide +kernel)), (zmem 499 (by decide +kernel)), ⟨by decide, by decide⟩, by decide +kernel⟩ (by simp only [List.length_append, List.length_nil, List.length_cons, yDig_len, tNm]; omega) ⟨Nat.le_of_ble_eq_true rfl, Nat.le_of_ble_eq_true rfl⟩ ⟨by show _ ≤ 300; omega, by show _ ≤ 600000; omega⟩ (Nat.le_of_ble_eq_true rfl) ?_
    refine y_aload_n C dL_text_222 rfl ?_
    refine y_iload_n C dL_text_223 rfl ?_
    refine y_iconst C dL_text_224 rfl ?_
    refine y_int (k := 3) (As := [.inr (30, zwS w 30), .inl (k : Int), .inl 0]) (rest := [.inr (8, b)]) (x := ((mRn w k 0 : Nat) : Int)) C hX dL_text_225 ⟨(zmem 759 (by decide +kernel)), (zmem 760 (by decide +kernel)), (zmem 20 (by decide +kernel)), (zmem 761 (by decide +kernel)), ⟨by decide, by decide⟩, by decide +kernel⟩ (cq_L_rain (zPu w yF) l zH0 (k : Int) 0) ((l_rain (w := w) (h := zH0) hk90).1 0 (by decide)) (yAs3 C) rfl ⟨Nat.le_of_ble_eq_true rfl, Nat.le_of_ble_eq_true rfl⟩ ⟨by show _ ≤ 300; omega, by show _ ≤ 600000; omega⟩ ⟨rfl, Nat.le_of_ble_eq_true rfl⟩ ⟨by omega, by omega⟩ yBS_stab ?_
    refine y_name (k := (mRn w k 0)) C hX hN hk10 dL_text_228 ⟨(zmem 710 (by decide +kernel)), (zmem 711 (by decide +kernel)), (zmem 20 (by decide +kernel)), (zmem 712 (by decide +kernel)), ⟨by decide, by decide⟩, by decide +kernel⟩ ⟨Nat.le_of_ble_eq_true rfl, Nat.le_of_ble_eq_true rfl⟩ ⟨by show _ ≤ 300; omega, by show _ ≤ 600000; omega⟩ (Nat.le_of_ble_eq_true rfl) (fun q2 qa2 g2 hg2 => ?_)
    refine y_to (G' := yBS w b ((([] ++ tRn w k) ++ ySB.getD 9 [])) ([] ++ (yStr w q2 qa2 2 g2 ++ yStr w q qa (tRn w k).length g))) (fun H h => h) ?_
    refine y_apD (u := tNm (mRn w k 0)) (s1 := []) (s2 := yStr w q qa (tRn w k).length g) C hX hN dL_text_231 ⟨(zmem 496 (by decide +kernel)), (zmem 497 (by decide +kernel)), (zmem 498 (by decide +kernel)), (zmem 31 (by decide +kernel)), (zmem 499 (by decide +kernel)), ⟨by decide, by decide⟩, by decide +kernel⟩ (tNm_ok hk10) (by simp only [List.length_append, List.length_nil, List.length_cons, yDig_len, tNm]; omega) rfl hg2 ⟨Nat.le_of_ble_eq_true rfl, Nat.le_of_ble_eq_true rfl⟩ ⟨by show _ ≤ 300; omega, by show _ ≤ 600000; omega⟩ (Nat.le_of_ble_eq_true rfl) ?_
    refine y_to (G' := yBS w b ((([] ++ tRn w k) ++ ySB.getD 9 []) ++ tNm (mRn w k 0)) (yStr w q qa (tRn w k).length g)) (fun H h => yBS_drop (a := yStr w q2 qa2 2 g2) h) ?_
    refine y_ldcS (idx := 21) (i := 0) (tx := " ") C hX rfl dL_text_234 (by decide) ?_
    refine y_apK (i := 0) C hX hN (by decide) dL_text_236 ⟨(zmem 496 (by decide +kernel)), (zmem 497 (by decide +kernel)), (zmem 498 (by decide +kernel)), (zmem 31 (by decide +kernel)), (zmem 499 (by decide +kernel)), ⟨by decide, by decide⟩, by decide +kernel⟩ (by simp only [List.length_append, List.length_nil, List.length_cons, yDig_len, tNm]; omega) ⟨Nat.le_of_ble_eq_true rfl, Nat.le_of_ble_eq_true rfl⟩ ⟨by show _ ≤ 300; omega, by show _ ≤ 600000; omega⟩ (Nat.le_of_ble_eq_true rfl) ?_
    refine y_aload_n C dL_text_239 rfl ?_
    refine y_iload_n C dL_text_240 rfl ?_
    refine y_iconst C dL_text_241 rfl ?_
    refine y_int (k := 3) (As := [.inr (30, zwS w 30), .inl (k : Int), .inl 1]) (rest := [.inr (8, b)]) (x := ((mRn w k 1 : Nat) : Int)) C hX dL_text_242 ⟨(zmem 759 (by decide +kernel)), (zmem 760 (by decide +kernel)), (zmem 20 (by decide +kernel)), (zmem 761 (by decide +kernel)), ⟨by decide, by decide⟩, by decide +kernel⟩ (cq_L_rain (zPu w yF) l zH0 (k : Int) 1) ((l_rain (w := w) (h := zH0) hk90).1 1 (by decide)) (yAs3 C) rfl ⟨Nat.le_of_ble_eq_true rfl, Nat.le_of_ble_eq_true rfl⟩ ⟨by show _ ≤ 300; omega, by show _ ≤ 600000; omega⟩ ⟨rfl, Nat.le_of_ble_eq_true rfl⟩ ⟨by omega, by omega⟩ yBS_stab ?_
    refine y_apN (k := 1) (As := [.inl (((mRn w k 1) : Nat) : Int)]) (rest := []) (u := yDig (mRn w k 1)) C hX hN rfl dL_text_245 ⟨(zmem 614 (by decide +kernel)), (zmem 615 (by decide +kernel)), (zmem 616 (by decide +kernel)), (zmem 31 (by decide +kernel)), (zmem 617 (by decide +kernel)), ⟨by decide, by decide⟩, by decide +kernel⟩ (fun wc da m0 f hh => c_J4_appendI wc l b da m0 _ f (mRn w k 1) (by omega) hh (by simp only [List.length_append, List.length_nil, List.length_cons, yDig_len, tNm]; omega)) rfl ⟨Nat.le_of_ble_eq_true rfl, Nat.le_of_ble_eq_true rfl⟩ ⟨by show _ ≤ 300; omega, by show _ ≤ 600000; omega⟩ ⟨rfl, Nat.le_of_ble_eq_true rfl⟩ ?_
    refine y_ldcS (idx := 21) (i := 0) (tx := " ") C hX rfl dL_text_248 (by decide) ?_
    refine y_apK (i := 0) C hX hN (by decide) dL_text_250 ⟨(zmem 496 (by decide +kernel)), (zmem 497 (by decide +kernel)), (zmem 498 (by decide +kernel)), (zmem 31 (by decide +kernel)), (zmem 499 (by decide +kernel)), ⟨by decide, by decide⟩, by decide +kernel⟩ (by simp only [List.length_append, List.length_nil, List.length_cons, yDig_len, tNm]; omega) ⟨Nat.le_of_ble_eq_true rfl, Nat.le_of_ble_eq_true rfl⟩ ⟨by show _ ≤ 300; omega, by show _ ≤ 600000; omega⟩ (Nat.le_of_ble_eq_true rfl) ?_
    refine y_aload_n C dL_text_253 rfl ?_
    refine y_iload_n C dL_text_254 rfl ?_
    refine y_iconst C dL_text_255 rfl ?_
    refine y_int (k := 3) (As := [.inr (30, zwS w 30), .inl (k : Int), .inl 2]) (rest := [.inr (8, b)]) (x := ((mRn w k 2 : Nat) : Int)) C hX dL_text_256 ⟨(zmem 759 (by decide +kernel)), (zmem 760 (by decide +kernel)), (zmem 20 (by decide +kernel)), (zmem 761 (by decide +kernel)), ⟨by decide, by decide⟩, by decide +kernel⟩ (cq_L_rain (zPu w yF) l zH0 (k : Int) 2) ((l_rain (w := w) (h := zH0) hk90).1 2 (by decide)) (yAs3 C) rfl ⟨Nat.le_of_ble_eq_true rfl, Nat.le_of_ble_eq_true rfl⟩ ⟨by show _ ≤ 300; omega, by show _ ≤ 600000; omega⟩ ⟨rfl, Nat.le_of_ble_eq_true rfl⟩ ⟨by omega, by omega⟩ yBS_stab ?_
    refine y_apN (k := 1) (As := [.inl (((mRn w k 2) : Nat) : Int)]) (rest := []) (u := yDig (mRn w k 2)) C hX hN rfl dL_text_259 ⟨(zmem 614 (by decide +kernel)), (zmem 615 (by decide +kernel)), (zmem 616 (by decide +kernel)), (zmem 31 (by decide +kernel)), (zmem 617 (by decide +kernel)), ⟨by decide, by decide⟩, by decide +kernel⟩ (fun wc da m0 f hh => c_J4_appendI wc l b da m0 _ f (mRn w k 2) (by omega) hh (by simp only [List.length_append, List.length_nil, List.length_cons, yDig_len, tNm]; omega)) rfl ⟨Nat.le_of_ble_eq_true rfl, Nat.le_of_ble_eq_true rfl⟩ ⟨by show _ ≤ 300; omega, by show _ ≤ 600000; omega⟩ ⟨rfl, Nat.le_of_ble_eq_true rfl⟩ ?_
    refine y_ldcS (idx := 21) (i := 0) (tx := " ") C hX rfl dL_text_262 (by decide) ?_
    refine y_apK (i := 0) C hX hN (by decide) dL_text_264 ⟨(zmem 496 (by decide +kernel)), (zmem 497 (by decide +kernel)), (zmem 498 (by decide +kernel)), (zmem 31 (by decide +kernel)), (zmem 499 (by decide +kernel)), ⟨by decide, by decide⟩, by decide +kernel⟩ (by simp only [List.length_append, List.length_nil, List.length_cons, yDig_len, tNm]; omega) ⟨Nat.le_of_ble_eq_true rfl, Nat.le_of_ble_eq_true rfl⟩ ⟨by show _ ≤ 300; omega, by show _ ≤ 600000; omega⟩ (Nat.le_of_ble_eq_true rfl) ?_
    refine y_aload_n C dL_text_267 rfl ?_
    refine y_iload_n C dL_text_268 rfl ?_
    refine y_iconst C dL_text_269 rfl ?_
    refine y_int (k := 3) (As := [.inr (30, zwS w 30), .inl (k : Int), .inl 3]) (rest := [.inr (8, b)]) (x := ((mRn w k 3 : Nat) : Int)) C hX dL_text_270 ⟨(zmem 759 (by decide +kernel)), (zmem 760 (by decide +kernel)), (zmem 20 (by decide +kernel)), (zmem 761 (by decide +kernel)), ⟨by decide, by decide⟩, by decide +kernel⟩ (cq_L_rain (zPu w yF) l zH0 (k : Int) 3) ((l_rain (w := w) (h := zH0) hk90).1 3 (by decide)) (yAs3 C) rfl ⟨Nat.le_of_ble_eq_true rfl, Nat.le_of_ble_eq_true rfl⟩ ⟨by show _ ≤ 300; omega, by show _ ≤ 600000; omega⟩ ⟨rfl, Nat.le_of_ble_eq_true rfl⟩ ⟨by omega, by omega⟩ yBS_stab ?_
    refine y_apN (k := 1) (As := [.inl (((mRn w k 3) : Nat) : Int)]) (rest := []) (u := yDig (mRn w k 3)) C hX hN rfl dL_text_273 ⟨(zmem 614 (by decide +kernel)), (zmem 615 (by decide +kernel)), (zmem 616 (by decide +kernel)), (zmem 31 (by decide +kernel)), (zmem 617 (by decide +kernel)), ⟨by decide, by decide⟩, by decide +kernel⟩ (fun wc da m0 f hh => c_J4_appendI wc l b da m0 _ f (mRn w k 3) (by omega) hh (by simp only [List.length_append, List.length_nil, List.length_cons, yDig_len, tNm]; omega)) rfl ⟨Nat.le_of_ble_eq_true rfl, Nat.le_of_ble_eq_true rfl⟩ ⟨by show _ ≤ 300; omega, by show _ ≤ 600000; omega⟩ ⟨rfl, Nat.le_of_ble_eq_true rfl⟩ ?_
    refine y_ldcS (idx := 84) (i := 5) (tx := ";") C hX rfl dL_text_276 (by decide) ?_
    refine y_apK (i := 5) C hX hN (by decide) dL_text_278 ⟨(zmem 496 (by decide +kernel)), (zmem 497 (by decide +kernel)), (zmem 498 (by decide +kernel)), (zmem 31 (by decide +kernel)), (zmem 499 (by decide +kernel)), ⟨by decide, by decide⟩, by decide +kernel⟩ (by simp only [List.length_append, List.length_nil, List.length_cons, yDig_len, tNm]; omega) ⟨Nat.le_of_ble_eq_true rfl, Nat.le_of_ble_eq_true rfl⟩ ⟨by show _ ≤ 300; omega, by show _ ≤ 600000; omega⟩ (Nat.le_of_ble_eq_true rfl) ?_
    refine y_toS C hX hN dL_text_281 ⟨(zmem 649 (by decide +kernel)), (zmem 650 (by decide +kernel)), (zmem 651 (by decide +kernel)), (zmem 31 (by decide +kernel)), (zmem 652 (by decide +kernel)), ⟨by decide, by decide⟩, by decide +kernel⟩ (by simp only [List.length_append, List.length_nil, List.length_cons, yDig_len, tNm]; omega) ⟨Nat.le_of_ble_eq_true rfl, Nat.le_of_ble_eq_true rfl⟩ ⟨by show _ ≤ 300; omega, by show _ ≤ 600000; omega⟩ (Nat.le_of_ble_eq_true rfl) (fun q3 qa3 g3 hg3 => ?_)
    refine y_astore_n C dL_text_284 (by decide) ?_
    refine y_iinc C dL_text_285 rfl (by decide) ?_
    rw [show zw ((k : Int) + 1) = ((k + 1 : Nat) : Int) by rw [zw_id ⟨by omega, by omega⟩]; omega]
    refine y_goto C dL_text_288 (tgt := 198) (by decide) ?_
    have eT : (((((((((([] ++ tRn w k) ++ ySB.getD 9 []) ++ tNm (mRn w k 0)) ++ ySB.getD 0 []) ++ yDig (mRn w k 1)) ++ ySB.getD 0 []) ++ yDig (mRn w k 2)) ++ ySB.getD 0 []) ++ yDig (mRn w k 3)) ++ ySB.getD 5 []) = tRn w (k + 1) := by
      rw [tRn_s]; unfold tRai; simp only [List.append_assoc, List.nil_append]
    rw [eT] at hg3 ⊢
    refine y_to (G' := yL w (yStr w q3 qa3 (tRn w (k + 1)).length g3 ++ [])) (fun H h => yL_left h) ?_
    have hl3 : (tRn w (k + 1)).length ≤ 400 + 60 * (k + 1) := by rw [← eT]; simp only [List.length_append, List.length_nil, List.length_cons, yDig_len, tNm]; omega
    exact y_widen (by omega) (by omega) (ih (k + 1) (by omega) q3 qa3 g3 hl3 hg3)
theorem L_cal {w : zW} {p : Program} {l : Launch} {e : Env} {s : State} {m9 : MethodId} {args : Array Value} {below : List Frame} {meth : Method} {c : Code} {Q : State → Prop} (C : zC w p s m9 args c 3 cL_text RL) (hX : yX w s s.heap) (hN : ∀ q, s.heap.size ≤ q → zA w q)
    (kk : ∀ (q qa : Nat) (g : Nat → Int32), (tCa w (mCls w)).length ≤ 600 + 60 * (mCls w) → yHs (tCa w (mCls w)) g → yS w p l e (zRmi 7 300 300 600000) s m9 args below meth c 3 (188 + 28 * mCls w) (386516 + 52724 * mCls w) Q 403 [some (.inr (30, zwS w 30)), some (.inr (9, q)), some (.inl ((mCls w : Nat) : Int))] [] (yL w (yStr w q qa (tCa w (mCls w)).length g ++ []))) :
    ∀ (d k : Nat), k + d = mCls w → ∀ (q qa : Nat) (g : Nat → Int32), (tCa w k).length ≤ 600 + 60 * (k) → yHs (tCa w k) g → yS w p l e (zRmi 7 300 300 600000) s m9 args below meth c 3 (188 + 28 * k) (386516 + 52724 * k) Q 293 [some (.inr (30, zwS w 30)), some (.inr (9, q)), some (.inl ((k : Nat) : Int))] [] (yL w (yStr w q qa (tCa w k).length g ++ [])) := by
  intro d
  induction d with
  | zero =>
    intro k hk q qa g hl hg
    obtain rfl : k = mCls w := by omega
    have hs := mS_b (w := w)
    have hc := (l_calls (w := w) (h := zH0)).2
    refine y_iload_n C dL_text_293 rfl ?_
    refine y_aload_n C dL_text_294 rfl ?_
    refine y_int (k := 1) (As := [.inr (30, zwS w 30)]) (rest := [.inl ((mCls w : Nat) : Int)]) (x := ((mCls w : Nat) : Int)) C hX dL_text_295 ⟨(zmem 171 (by decide +kernel)), (zmem 172 (by decide +kernel)), (zmem 20 (by decide +kernel)), (zmem 173 (by decide +kernel)), ⟨by decide, by decide⟩, by decide +kernel⟩ (cq_L_calls (zPu w yF) l zH0) ((l_calls (w := w) (h := zH0)).1) (yAs1 C) rfl ⟨Nat.le_of_ble_eq_true rfl, Nat.le_of_ble_eq_true rfl⟩ ⟨by show _ ≤ 300; omega, by show _ ≤ 600000; omega⟩ ⟨rfl, Nat.le_of_ble_eq_true rfl⟩ ⟨by omega, by omega⟩ yL_stab ?_
    refine y_icmp_ge C dL_text_298 (tgt := 403) (by decide) (fun _ => ?_) (fun c1 => absurd (Int.le_refl _) c1)
    exact kk q qa g hl hg
  | succ d ih =>
    intro k hk q qa g hl hg
    have hs := mS_b (w := w)
    have hc := (l_calls (w := w) (h := zH0)).2
    have hk90 : k < 90 := by omega
    have f1 := (l_call (w := w) (h := zH0) hk90).2
    have hk10 : mCl w k 0 < 10 := by omega
    have hk11 : mCl w k 1 < 10 := by omega
    have hok : yOk (tCa w k) := tCa_ok (by omega)
    have y1 := yLen_b (mCl w k 2)
    have y2 := yLen_b (mCl w k 3)
    have y3 := yLen_b (mCl w k 4)
    have B0 : (ySB.getD 0 []).length = 1 := rfl
    have B1 : (ySB.getD 1 []).length = 9 := rfl
    have B2 : (ySB.getD 2 []).length = 12 := rfl
    have B3 : (ySB.getD 3 []).length = 11 := rfl
    have B4 : (ySB.getD 4 []).length = 11 := rfl
    have B5 : (ySB.getD 5 []).length = 1 := rfl
    have B6 : (ySB.getD 6 []).length = 8 := rfl
    have B7 : (ySB.getD 7 []).length = 1 := rfl
    have B8 : (ySB.getD 8 []).length = 0 := rfl
    have B9 : (ySB.getD 9 []).length = 5 := rfl
    have B10 : (ySB.getD 10 []).length = 5 := rfl
    have B11 : (ySB.getD 11 []).length = 1 := rfl
    refine y_iload_n C dL_text_293 rfl ?_
    refine y_aload_n C dL_text_294 rfl ?_
    refine y_int (k := 1) (As := [.inr (30, zwS w 30)]) (rest := [.inl (k : Int)]) (x := ((mCls w : Nat) : Int)) C hX dL_text_295 ⟨(zmem 171 (by decide +kernel)), (zmem 172 (by decide +kernel)), (zmem 20 (by decide +kernel)), (zmem 173 (by decide +kernel)), ⟨by decide, by decide⟩, by decide +kernel⟩ (cq_L_calls (zPu w yF) l zH0) ((l_calls (w := w) (h := zH0)).1) (yAs1 C) rfl ⟨Nat.le_of_ble_eq_true rfl, Nat.le_of_ble_eq_true rfl⟩ ⟨by show _ ≤ 300; omega, by show _ ≤ 600000; omega⟩ ⟨rfl, Nat.le_of_ble_eq_true rfl⟩ ⟨by omega, by omega⟩ yL_stab ?_
    refine y_icmp_ge C dL_text_298 (tgt := 403) (by decide) (fun c1 => by exfalso; omega) (fun _ => ?_)
    refine y_newSB C hX hN (zmem 464 (by decide +kernel)) (zmem 465 (by decide +kernel)) (zmem 31 (by decide +kernel)) ⟨rfl, (zmem 466 (by decide +kernel)), (zmem 467 (by decide +kernel)), (zmem 31 (by decide +kernel)), (zmem 468 (by decide +kernel)), ⟨by decide, by decide⟩, by decide +kernel⟩ dL_text_301 dL_text_304 dL_text_305 ⟨Nat.le_of_ble_eq_true rfl, Nat.le_of_ble_eq_true rfl⟩ ⟨by show _ ≤ 300; omega, by show _ ≤ 600000; omega⟩ (Nat.le_of_ble_eq_true rfl) (fun b => ?_)
    refine y_aload_n C dL_text_308 rfl ?_
    refine y_to (G' := yBS w b [] ([] ++ (yStr w q qa (tCa w k).length g ++ []))) (fun H h => h) ?_
    refine y_apD (u := tCa w k) (s1 := []) (s2 := []) C hX hN dL_text_309 ⟨(zmem 496 (by decide +kernel)), (zmem 497 (by decide +kernel)), (zmem 498 (by decide +kernel)), (zmem 31 (by decide +kernel)), (zmem 499 (by decide +kernel)), ⟨by decide, by decide⟩, by decide +kernel⟩ hok (by simp only [List.length_append, List.length_nil, List.length_cons, yDig_len, tNm]; omega) rfl hg ⟨Nat.le_of_ble_eq_true rfl, Nat.le_of_ble_eq_true rfl⟩ ⟨by show _ ≤ 300; omega, by show _ ≤ 600000; omega⟩ (Nat.le_of_ble_eq_true rfl) ?_
    refine y_to (G' := yBS w b ([] ++ tCa w k) (yStr w q qa (tCa w k).length g)) (fun H h => h) ?_
    refine y_ldcS (idx := 119) (i := 10) (tx := "call ") C hX rfl dL_text_312 (by decide) ?_
    refine y_apK (i := 10) C hX hN (by decide) dL_text_314 ⟨(zmem 496 (by decide +kernel)), (zmem 497 (by decide +kernel)), (zmem 498 (by decide +kernel)), (zmem 31 (by decide +kernel)), (zmem 499 (by decide +kernel)), ⟨by decide, by decide⟩, by decide +kernel⟩ (by simp only [List.length_append, List.length_nil, List.length_cons, yDig_len, tNm]; omega) ⟨Nat.le_of_ble_eq_true rfl, Nat.le_of_ble_eq_true rfl⟩ ⟨by show _ ≤ 300; omega, by show _ ≤ 600000; omega⟩ (Nat.le_of_ble_eq_true rfl) ?_
    refine y_aload_n C dL_text_317 rfl ?_
    refine y_iload_n C dL_text_318 rfl ?_
    refine y_iconst C dL_text_319 rfl ?_
    refine y_int (k := 3) (As := [.inr (30, zwS w 30), .inl (k : Int), .inl 0]) (rest := [.inr (8, b)]) (x := ((mCl w k 0 : Nat) : Int)) C hX dL_text_320 ⟨(zmem 174 (by decide +kernel)), (zmem 175 (by decide +kernel)), (zmem 20 (by decide +kernel)), (zmem 176 (by decide +kernel)), ⟨by decide, by decide⟩, by decide +kernel⟩ (cq_L_call (zPu w yF) l zH0 (k : Int) 0) ((l_call (w := w) (h := zH0) hk90).1 0 (by decide)) (yAs3 C) rfl ⟨Nat.le_of_ble_eq_true rfl, Nat.le_of_ble_eq_true rfl⟩ ⟨by show _ ≤ 300; omega, by show _ ≤ 600000; omega⟩ ⟨rfl, Nat.le_of_ble_eq_true rfl⟩ ⟨by omega, by omega⟩ yBS_stab ?_
    refine y_name (k := (mCl w k 0)) C hX hN hk10 dL_text_323 ⟨(zmem 710 (by decide +kernel)), (zmem 711 (by decide +kernel)), (zmem 20 (by decide +kernel)), (zmem 712 (by decide +kernel)), ⟨by decide, by decide⟩, by decide +kernel⟩ ⟨Nat.le_of_ble_eq_true rfl, Nat.le_of_ble_eq_true rfl⟩ ⟨by show _ ≤ 300; omega, by show _ ≤ 600000; omega⟩ (Nat.le_of_ble_eq_true rfl) (fun q2 qa2 g2 hg2 => ?_)
    refine y_to (G' := yBS w b ((([] ++ tCa w k) ++ ySB.getD 10 [])) ([] ++ (yStr w q2 qa2 2 g2 ++ yStr w q qa (tCa w k).length g))) (fun H h => h) ?_
    refine y_apD (u := tNm (mCl w k 0)) (s1 := []) (s2 := yStr w q qa (tCa w k).length g) C hX hN dL_text_326 ⟨(zmem 496 (by decide +kernel)), (zmem 497 (by decide +kernel)), (zmem 498 (by decide +kernel)), (zmem 31 (by decide +kernel)), (zmem 499 (by decide +kernel)), ⟨by decide, by decide⟩, by decide +kernel⟩ (tNm_ok hk10) (by simp only [List.length_append, List.length_nil, List.length_cons, yDig_len, tNm]; omega) rfl hg2 ⟨Nat.le_of_ble_eq_true rfl, Nat.le_of_ble_eq_true rfl⟩ ⟨by show _ ≤ 300; omega, by show _ ≤ 600000; omega⟩ (Nat.le_of_ble_eq_true rfl) ?_
    refine y_to (G' := yBS w b ((([] ++ tCa w k) ++ ySB.getD 10 []) ++ tNm (mCl w k 0)) (yStr w q qa (tCa w k).length g)) (fun H h => yBS_drop (a := yStr w q2 qa2 2 g2) h) ?_
    refine y_ldcS (idx := 21) (i := 0) (tx := " ") C hX rfl dL_text_329 (by decide) ?_
    refine y_apK (i := 0) C hX hN (by decide) dL_text_331 ⟨(zmem 496 (by decide +kernel)), (zmem 497 (by decide +kernel)), (zmem 498 (by decide +kernel)), (zmem 31 (by decide +kernel)), (zmem 499 (by decide +kernel)), ⟨by decide, by decide⟩, by decide +kernel⟩ (by simp only [List.length_append, List.length_nil, List.length_cons, yDig_len, tNm]; omega) ⟨Nat.le_of_ble_eq_true rfl, Nat.le_of_ble_eq_true rfl⟩ ⟨by show _ ≤ 300; omega, by show _ ≤ 600000; omega⟩ (Nat.le_of_ble_eq_true rfl) ?_
    refine y_aload_n C dL_text_334 rfl ?_
    refine y_iload_n C dL_text_335 rfl ?_
    refine y_iconst C dL_text_336 rfl ?_
    refine y_int (k := 3) (As := [.inr (30, zwS w 30), .inl (k : Int), .inl 1]) (rest := [.inr (8, b)]) (x := ((mCl w k 1 : Nat) : Int)) C hX dL_text_337 ⟨(zmem 174 (by decide +kernel)), (zmem 175 (by decide +kernel)), (zmem 20 (by decide +kernel)), (zmem 176 (by decide +kernel)), ⟨by decide, by decide⟩, by decide +kernel⟩ (cq_L_call (zPu w yF) l zH0 (k : Int) 1) ((l_call (w := w) (h := zH0) hk90).1 1 (by decide)) (yAs3 C) rfl ⟨Nat.le_of_ble_eq_true rfl, Nat.le_of_ble_eq_true rfl⟩ ⟨by show _ ≤ 300; omega, by show _ ≤ 600000; omega⟩ ⟨rfl, Nat.le_of_ble_eq_true rfl⟩ ⟨by omega, by omega⟩ yBS_stab ?_
    refine y_name (k := (mCl w k 1)) C hX hN hk11 dL_text_340 ⟨(zmem 710 (by decide +kernel)), (zmem 711 (by decide +kernel)), (zmem 20 (by decide +kernel)), (zmem 712 (by decide +kernel)), ⟨by decide, by decide⟩, by decide +kernel⟩ ⟨Nat.le_of_ble_eq_true rfl, Nat.le_of_ble_eq_true rfl⟩ ⟨by show _ ≤ 300; omega, by show _ ≤ 600000; omega⟩ (Nat.le_of_ble_eq_true rfl) (fun q2 qa2 g2 hg2 => ?_)
    refine y_to (G' := yBS w b ((((([] ++ tCa w k) ++ ySB.getD 10 []) ++ tNm (mCl w k 0)) ++ ySB.getD 0 [])) ([] ++ (yStr w q2 qa2 2 g2 ++ yStr w q qa (tCa w k).length g))) (fun H h => h) ?_
    refine y_apD (u := tNm (mCl w k 1)) (s1 := []) (s2 := yStr w q qa (tCa w k).length g) C hX hN dL_text_343 ⟨(zmem 496 (by decide +kernel)), (zmem 497 (by decide +kernel)), (zmem 498 (by decide +kernel)), (zmem 31 (by decide +kernel)), (zmem 499 (by decide +kernel)), ⟨by decide, by decide⟩, by decide +kernel⟩ (tNm_ok hk11) (by simp only [List.length_append, List.length_nil, List.length_cons, yDig_len, tNm]; omega) rfl hg2 ⟨Nat.le_of_ble_eq_true rfl, Nat.le_of_ble_eq_true rfl⟩ ⟨by show _ ≤ 300; omega, by show _ ≤ 600000; omega⟩ (Nat.le_of_ble_eq_true rfl) ?_
    refine y_to (G' := yBS w b ((((([] ++ tCa w k) ++ ySB.getD 10 []) ++ tNm (mCl w k 0)) ++ ySB.getD 0 []) ++ tNm (mCl w k 1)) (yStr w q qa (tCa w k).length g)) (fun H h => yBS_drop (a := yStr w q2 qa2 2 g2) h) ?_
    refine y_ldcS (idx := 21) (i := 0) (tx := " ") C hX rfl dL_text_346 (by decide) ?_
    refine y_apK (i := 0) C hX hN (by decide) dL_text_348 ⟨(zmem 496 (by decide +kernel)), (zmem 497 (by decide +kernel)), (zmem 498 (by decide +kernel)), (zmem 31 (by decide +kernel)), (zmem 499 (by decide +kernel)), ⟨by decide, by decide⟩, by decide +kernel⟩ (by simp only [List.length_append, List.length_nil, List.length_cons, yDig_len, tNm]; omega) ⟨Nat.le_of_ble_eq_true rfl, Nat.le_of_ble_eq_true rfl⟩ ⟨by show _ ≤ 300; omega, by show _ ≤ 600000; omega⟩ (Nat.le_of_ble_eq_true rfl) ?_
    refine y_aload_n C dL_text_351 rfl ?_
    refine y_iload_n C dL_text_352 rfl ?_
    refine y_iconst C dL_text_353 rfl ?_
    refine y_int (k := 3) (As := [.inr (30, zwS w 30), .inl (k : Int), .inl 2]) (rest := [.inr (8, b)]) (x := ((mCl w k 2 : Nat) : Int)) C hX dL_text_354 ⟨(zmem 174 (by decide +kernel)), (zmem 175 (by decide +kernel)), (zmem 20 (by decide +kernel)), (zmem 176 (by decide +kernel)), ⟨by decide, by decide⟩, by decide +kernel⟩ (cq_L_call (zPu w yF) l zH0 (k : Int) 2) ((l_call (w := w) (h := zH0) hk90).1 2 (by decide)) (yAs3 C) rfl ⟨Nat.le_of_ble_eq_true rfl, Nat.le_of_ble_eq_true rfl⟩ ⟨by show _ ≤ 300; omega, by show _ ≤ 600000; omega⟩ ⟨rfl, Nat.le_of_ble_eq_true rfl⟩ ⟨by omega, by omega⟩ yBS_stab ?_
    refine y_apN (k := 1) (As := [.inl (((mCl w k 2) : Nat) : Int)]) (rest := []) (u := yDig (mCl w k 2)) C hX hN rfl dL_text_357 ⟨(zmem 614 (by decide +kernel)), (zmem 615 (by decide +kernel)), (zmem 616 (by decide +kernel)), (zmem 31 (by decide +kernel)), (zmem 617 (by decide +kernel)), ⟨by decide, by decide⟩, by decide +kernel⟩ (fun wc da m0 f hh => c_J4_appendI wc l b da m0 _ f (mCl w k 2) (by omega) hh (by simp only [List.length_append, List.length_nil, List.length_cons, yDig_len, tNm]; omega)) rfl ⟨Nat.le_of_ble_eq_true rfl, Nat.le_of_ble_eq_true rfl⟩ ⟨by show _ ≤ 300; omega, by show _ ≤ 600000; omega⟩ ⟨rfl, Nat.le_of_ble_eq_true rfl⟩ ?_
    refine y_ldcS (idx := 21) (i := 0) (tx := " ") C hX rfl dL_text_360 (by decide) ?_
    refine y_apK (i := 0) C hX hN (by decide) dL_text_362 ⟨(zmem 496 (by decide +kernel)), (zmem 497 (by decide +kernel)), (zmem 498 (by decide +kernel)), (zmem 31 (by decide +kernel)), (zmem 499 (by decide +kernel)), ⟨by decide, by decide⟩, by decide +kernel⟩ (by simp only [List.length_append, List.length_nil, List.length_cons, yDig_len, tNm]; omega) ⟨Nat.le_of_ble_eq_true rfl, Nat.le_of_ble_eq_true rfl⟩ ⟨by show _ ≤ 300; omega, by show _ ≤ 600000; omega⟩ (Nat.le_of_ble_eq_true rfl) ?_
    refine y_aload_n C dL_text_365 rfl ?_
    refine y_iload_n C dL_text_366 rfl ?_
    refine y_iconst C dL_text_367 rfl ?_
    refine y_int (k := 3) (As := [.inr (30, zwS w 30), .inl (k : Int), .inl 3]) (rest := [.inr (8, b)]) (x := ((mCl w k 3 : Nat) : Int)) C hX dL_text_368 ⟨(zmem 174 (by decide +kernel)), (zmem 175 (by decide +kernel)), (zmem 20 (by decide +kernel)), (zmem 176 (by decide +kernel)), ⟨by decide, by decide⟩, by decide +kernel⟩ (cq_L_call (zPu w yF) l zH0 (k : Int) 3) ((l_call (w := w) (h := zH0) hk90).1 3 (by decide)) (yAs3 C) rfl ⟨Nat.le_of_ble_eq_true rfl, Nat.le_of_ble_eq_true rfl⟩ ⟨by show _ ≤ 300; omega, by show _ ≤ 600000; omega⟩ ⟨rfl, Nat.le_of_ble_eq_true rfl⟩ ⟨by omega, by omega⟩ yBS_stab ?_
    refine y_apN (k := 1) (As := [.inl (((mCl w k 3) : Nat) : Int)]) (rest := []) (u := yDig (mCl w k 3)) C hX hN rfl dL_text_371 ⟨(zmem 614 (by decide +kernel)), (zmem 615 (by decide +kernel)), (zmem 616 (by decide +kernel)), (zmem 31 (by decide +kernel)), (zmem 617 (by decide +kernel)), ⟨by decide, by decide⟩, by decide +kernel⟩ (fun wc da m0 f hh => c_J4_appendI wc l b da m0 _ f (mCl w k 3) (by omega) hh (by simp only [List.length_append, List.length_nil, List.length_cons, yDig_len, tNm]; omega)) rfl ⟨Nat.le_of_ble_eq_true rfl, Nat.le_of_ble_eq_true rfl⟩ ⟨by show _ ≤ 300; omega, by show _ ≤ 600000; omega⟩ ⟨rfl, Nat.le_of_ble_eq_true rfl⟩ ?_
    refine y_ldcS (idx := 21) (i := 0) (tx := " ") C hX rfl dL_text_374 (by decide) ?_
    refine y_apK (i := 0) C hX hN (by decide) dL_text_376 ⟨(zmem 496 (by decide +kernel)), (zmem 497 (by decide +kernel)), (zmem 498 (by decide +kernel)), (zmem 31 (by decide +kernel)), (zmem 499 (by decide +kernel)), ⟨by decide, by decide⟩, by decide +kernel⟩ (by simp only [List.length_append, List.length_nil, List.length_cons, yDig_len, tNm]; omega) ⟨Nat.le_of_ble_eq_true rfl, Nat.le_of_ble_eq_true rfl⟩ ⟨by show _ ≤ 300; omega, by show _ ≤ 600000; omega⟩ (Nat.le_of_ble_eq_true rfl) ?_
    refine y_aload_n C dL_text_379 rfl ?_
    refine y_iload_n C dL_text_380 rfl ?_
    refine y_iconst C dL_text_381 rfl ?_
    refine y_int (k := 3) (As := [.inr (30, zwS w 30), .inl (k : Int), .inl 4]) (rest := [.inr (8, b)]) (x := ((mCl w k 4 : Nat) : Int)) C hX dL_text_382 ⟨(zmem 174 (by decide +kernel)), (zmem 175 (by decide +kernel)), (zmem 20 (by decide +kernel)), (zmem 176 (by decide +kernel)), ⟨by decide, by decide⟩, by decide +kernel⟩ (cq_L_call (zPu w yF) l zH0 (k : Int) 4) ((l_call (w := w) (h := zH0) hk90).1 4 (by decide)) (yAs3 C) rfl ⟨Nat.le_of_ble_eq_true rfl, Nat.le_of_ble_eq_true rfl⟩ ⟨by show _ ≤ 300; omega, by show _ ≤ 600000; omega⟩ ⟨rfl, Nat.le_of_ble_eq_true rfl⟩ ⟨by omega, by omega⟩ yBS_stab ?_
    refine y_apN (k := 1) (As := [.inl (((mCl w k 4) : Nat) : Int)]) (rest := []) (u := yDig (mCl w k 4)) C hX hN rfl dL_text_385 ⟨(zmem 614 (by decide +kernel)), (zmem 615 (by decide +kernel)), (zmem 616 (by decide +kernel)), (zmem 31 (by decide +kernel)), (zmem 617 (by decide +kernel)), ⟨by decide, by decide⟩, by decide +kernel⟩ (fun wc da m0 f hh => c_J4_appendI wc l b da m0 _ f (mCl w k 4) (by omega) hh (by simp only [List.length_append, List.length_nil, List.length_cons, yDig_len, tNm]; omega)) rfl ⟨Nat.le_of_ble_eq_true rfl, Nat.le_of_ble_eq_true rfl⟩ ⟨by show _ ≤ 300; omega, by show _ ≤ 600000; omega⟩ ⟨rfl, Nat.le_of_ble_eq_true rfl⟩ ?_
    refine y_ldcS (idx := 84) (i := 5) (tx := ";") C hX rfl dL_text_388 (by decide) ?_
    refine y_apK (i := 5) C hX hN (by decide) dL_text_390 ⟨(zmem 496 (by decide +kernel)), (zmem 497 (by decide +kernel)), (zmem 498 (by decide +kernel)), (zmem 31 (by decide +kernel)), (zmem 499 (by decide +kernel)), ⟨by decide, by decide⟩, by decide +kernel⟩ (by simp only [List.length_append, List.length_nil, List.length_cons, yDig_len, tNm]; omega) ⟨Nat.le_of_ble_eq_true rfl, Nat.le_of_ble_eq_true rfl⟩ ⟨by show _ ≤ 300; omega, by show _ ≤ 600000; omega⟩ (Nat.le_of_ble_eq_true rfl) ?_
    refine y_toS C hX hN dL_text_393 ⟨(zmem 649 (by decide +kernel)), (zmem 650 (by decide +kernel)), (zmem 651 (by decide +kernel)), (zmem 31 (by decide +kernel)), (zmem 652 (by decide +kernel)), ⟨by decide, by decide⟩, by decide +kernel⟩ (by simp only [List.length_append, List.length_nil, List.length_cons, yDig_len, tNm]; omega) ⟨Nat.le_of_ble_eq_true rfl, Nat.le_of_ble_eq_true rfl⟩ ⟨by show _ ≤ 300; omega, by show _ ≤ 600000; omega⟩ (Nat.le_of_ble_eq_true rfl) (fun q3 qa3 g3 hg3 => ?_)
    refine y_astore_n C dL_text_396 (by decide) ?_
    refine y_iinc C dL_text_397 rfl (by decide) ?_
    rw [show zw ((k : Int) + 1) = ((k + 1 : Nat) : Int) by rw [zw_id ⟨by omega, by omega⟩]; omega]
    refine y_goto C dL_text_400 (tgt := 293) (by decide) ?_
    have eT : (((((((((((([] ++ tCa w k) ++ ySB.getD 10 []) ++ tNm (mCl w k 0)) ++ ySB.getD 0 []) ++ tNm (mCl w k 1)) ++ ySB.getD 0 []) ++ yDig (mCl w k 2)) ++ ySB.getD 0 []) ++ yDig (mCl w k 3)) ++ ySB.getD 0 []) ++ yDig (mCl w k 4)) ++ ySB.getD 5 []) = tCa w (k + 1) := by
      rw [tCa_s]; unfold tCal; simp only [List.append_assoc, List.nil_append]
    rw [eT] at hg3 ⊢
    refine y_to (G' := yL w (yStr w q3 qa3 (tCa w (k + 1)).length g3 ++ [])) (fun H h => yL_left h) ?_
    have hl3 : (tCa w (k + 1)).length ≤ 600 + 60 * (k + 1) := by rw [← eT]; simp only [List.length_append, List.length_nil, List.length_cons, yDig_len, tNm]; omega
    exact y_widen (by omega) (by omega) (ih (k + 1) (by omega) q3 qa3 g3 hl3 hg3)
