/-! The law's put. -/
/-- the words that put makes of a text's letters, from the k-th on, after i of them -/
def pWo (t : List Int32) (k : Nat) : Nat → Nat → Int
  | 0 => fun _ => 0
  | i + 1 => fun j => if j = i / 4 then zor (pWo t k i j) (zshl (t.getD (k + i) 0).toInt (24 - 8 * ((i % 4 : Nat) : Int))) else pWo t k i j
theorem pWo_R {t : List Int32} {k : Nat} : ∀ i j, zR (pWo t k i j) := by
  intro i
  induction i with
  | zero => exact fun j => zR_0
  | succ i ih =>
    intro j
    unfold pWo
    split
    · exact zR_of _
    · exact ih j
/-- one step of feeding -/
def pFeed (B : Nat) (t : List Int32) (k : Nat) (h h1 : zH) : Prop := ∃ r, zR r ∧ q_X7_feed h B (pWo t k 20 0) (pWo t k 20 1) (pWo t k 20 2) (pWo t k 20 3) (pWo t k 20 4) = some (r, h1)
/-- the text with its spaces -/
def padL (t : List Int32) : Nat := (20 - t.length % 20) % 20
def padT (t : List Int32) : List Int32 := t ++ List.replicate (padL t) 32
theorem padT_len {t : List Int32} : (padT t).length % 20 = 0 ∧ t.length ≤ (padT t).length ∧ (padT t).length < t.length + 20 := by
  unfold padT padL
  rw [List.length_append, List.length_replicate]
  omega
theorem P_pad {w wp : zW} {p : Program} {l : Launch} {e : Env} {s : State} {m9 : MethodId} {args : Array Value} {below : List Frame} {meth : Method} {c : Code} {Q : State → Prop} {B : Nat} {vx : Option zv} (C : zC w p s m9 args c 6 cL_put RL) (hX : yX w s s.heap) (hN : ∀ q, s.heap.size ≤ q → zA w q) {h : zH} {t0 : List Int32} (h0 : t0.length ≤ 1000)
    (kk : ∀ (a : va_W) (q qa kq : Nat), (∀ h9 : zH, yProv w s (a ++ PL wp h9) q qa (padT t0)) → yOk (padT t0) → yS w p l e (zRmi 7 300 200 200000) s m9 args below meth c 6 (120) (150000) Q 35 [some (.inr (7, B)), vx, some (.inr (kq, q)), none, none, none] [] (yL w (a ++ PL wp h))) :
    ∀ (d i : Nat), i + d = padL t0 → ∀ (t : List Int32) (a : va_W) (q qa kq : Nat), t = t0 ++ List.replicate i 32 → (∀ h9 : zH, yProv w s (a ++ PL wp h9) q qa t) → yOk t → yS w p l e (zRmi 7 300 200 200000) s m9 args below meth c 6 (6 * i) (7524 * i) Q 2 [some (.inr (7, B)), vx, some (.inr (kq, q)), none, none, none] [] (yL w (a ++ PL wp h)) := by
  intro d
  induction d with
  | zero =>
    intro i hi t a q qa kq ht hp hu
    have hlt : padL t0 < 20 := by unfold padL; omega
    have hl : t.length = t0.length + i := by rw [ht, List.length_append, List.length_replicate]
    have hl2 : t.length % 20 = 0 := by rw [hl]; unfold padL at hi; omega
    refine y_aload_n C dL_put_2 rfl ?_
    refine y_to (G' := yL w (([]) ++ (a ++ PL wp h))) (fun H h => h) ?_
    refine y_pureD (v := .inl ((t.length : Nat) : Int)) (k := 0) (As := []) (rest := []) C hX (hp h) hu dL_put_3 ⟨rfl, (zmem 766 (by decide +kernel)), (zmem 572 (by decide +kernel)), (zmem 573 (by decide +kernel)), (zmem 32 (by decide +kernel)), (zmem 574 (by decide +kernel)), ⟨by decide, by decide⟩, by decide +kernel⟩ (c_J0_lengthT _ l zH0 (show zTok (zPt w yF q qa t) from hu)) (fun u hu => by cases hu) rfl ⟨Nat.le_of_ble_eq_true rfl, Nat.le_of_ble_eq_true rfl⟩ ⟨by show _ ≤ 200; omega, by show _ ≤ 200000; omega⟩ ⟨rfl, Nat.le_of_ble_eq_true rfl⟩ (show zR _ from ⟨by omega, by omega⟩) ?_
    refine y_to (G' := yL w (([]) ++ (a ++ PL wp h))) (fun H h => h) ?_
    refine y_bipush C dL_put_6 (by decide) rfl ?_
    refine y_irem C dL_put_8 (by decide) ?_
    refine y_num (y := ((t.length % 20 : Nat) : Int)) (by rw [Int.tmod_eq_emod_of_nonneg (by omega)]; omega) ?_
    refine y_if_eq C dL_put_9 (tgt := 35) (by decide) (fun _ => ?_) (fun c1 => by exfalso; omega)
    have e : t = padT t0 := by rw [ht]; unfold padT; rw [show i = padL t0 by omega]
    rw [e] at hp hu
    exact y_widen (by omega) (by omega) (kk a q qa kq hp hu)
  | succ d ih =>
    intro i hi t a q qa kq ht hp hu
    have hlt : padL t0 < 20 := by unfold padL; omega
    have hl : t.length = t0.length + i := by rw [ht, List.length_append, List.length_replicate]
    have hl2 : ¬ t.length % 20 = 0 := by rw [hl]; unfold padL at hi hlt; omega
    have B0 : (ySB.getD 0 []).length = 1 := rfl
    refine y_aload_n C dL_put_2 rfl ?_
    refine y_to (G' := yL w (([]) ++ (a ++ PL wp h))) (fun H h => h) ?_
    refine y_pureD (v := .inl ((t.length : Nat) : Int)) (k := 0) (As := []) (rest := []) C hX (hp h) hu dL_put_3 ⟨rfl, (zmem 766 (by decide +kernel)), (zmem 572 (by decide +kernel)), (zmem 573 (by decide +kernel)), (zmem 32 (by decide +kernel)), (zmem 574 (by decide +kernel)), ⟨by decide, by decide⟩, by decide +kernel⟩ (c_J0_lengthT _ l zH0 (show zTok (zPt w yF q qa t) from hu)) (fun u hu => by cases hu) rfl ⟨Nat.le_of_ble_eq_true rfl, Nat.le_of_ble_eq_true rfl⟩ ⟨by show _ ≤ 200; omega, by show _ ≤ 200000; omega⟩ ⟨rfl, Nat.le_of_ble_eq_true rfl⟩ (show zR _ from ⟨by omega, by omega⟩) ?_
    refine y_to (G' := yL w (([]) ++ (a ++ PL wp h))) (fun H h => h) ?_
    refine y_bipush C dL_put_6 (by decide) rfl ?_
    refine y_irem C dL_put_8 (by decide) ?_
    refine y_num (y := ((t.length % 20 : Nat) : Int)) (by rw [Int.tmod_eq_emod_of_nonneg (by omega)]; omega) ?_
    refine y_if_eq C dL_put_9 (tgt := 35) (by decide) (fun c1 => by exfalso; omega) (fun _ => ?_)
    refine y_newSB C hX hN (zmem 464 (by decide +kernel)) (zmem 465 (by decide +kernel)) (zmem 31 (by decide +kernel)) ⟨rfl, (zmem 466 (by decide +kernel)), (zmem 467 (by decide +kernel)), (zmem 31 (by decide +kernel)), (zmem 468 (by decide +kernel)), ⟨by decide, by decide⟩, by decide +kernel⟩ dL_put_12 dL_put_15 dL_put_16 ⟨Nat.le_of_ble_eq_true rfl, Nat.le_of_ble_eq_true rfl⟩ ⟨by show _ ≤ 200; omega, by show _ ≤ 200000; omega⟩ (Nat.le_of_ble_eq_true rfl) (fun b => ?_)
    refine y_aload_n C dL_put_19 rfl ?_
    refine y_apP (u := t) C hX hN (hp h) dL_put_20 ⟨(zmem 496 (by decide +kernel)), (zmem 497 (by decide +kernel)), (zmem 498 (by decide +kernel)), (zmem 31 (by decide +kernel)), (zmem 499 (by decide +kernel)), ⟨by decide, by decide⟩, by decide +kernel⟩ hu (by simp only [List.length_nil]; omega) ⟨Nat.le_of_ble_eq_true rfl, Nat.le_of_ble_eq_true rfl⟩ ⟨by show _ ≤ 200; omega, by show _ ≤ 200000; omega⟩ (Nat.le_of_ble_eq_true rfl) ?_
    refine y_ldcS (idx := 21) (i := 0) (tx := " ") C hX rfl dL_put_23 (by decide) ?_
    refine y_apK (i := 0) C hX hN (by decide) dL_put_25 ⟨(zmem 496 (by decide +kernel)), (zmem 497 (by decide +kernel)), (zmem 498 (by decide +kernel)), (zmem 31 (by decide +kernel)), (zmem 499 (by decide +kernel)), ⟨by decide, by decide⟩, by decide +kernel⟩ (by simp only [List.length_append, List.length_nil]; omega) ⟨Nat.le_of_ble_eq_true rfl, Nat.le_of_ble_eq_true rfl⟩ ⟨by show _ ≤ 200; omega, by show _ ≤ 200000; omega⟩ (Nat.le_of_ble_eq_true rfl) ?_
    refine y_toS C hX hN dL_put_28 ⟨(zmem 649 (by decide +kernel)), (zmem 650 (by decide +kernel)), (zmem 651 (by decide +kernel)), (zmem 31 (by decide +kernel)), (zmem 652 (by decide +kernel)), ⟨by decide, by decide⟩, by decide +kernel⟩ (by simp only [List.length_append, List.length_nil]; omega) ⟨Nat.le_of_ble_eq_true rfl, Nat.le_of_ble_eq_true rfl⟩ ⟨by show _ ≤ 200; omega, by show _ ≤ 200000; omega⟩ (Nat.le_of_ble_eq_true rfl) (fun q2 qa2 g2 hg2 => ?_)
    refine y_astore_n C dL_put_31 (by decide) ?_
    refine y_goto C dL_put_32 (tgt := 2) (by decide) ?_
    have e1 : ([] ++ t) ++ ySB.getD 0 [] = t ++ [32] := rfl
    rw [e1] at hg2 ⊢
    have hu2 : yOk (t ++ [32]) := ⟨by rw [List.length_append]; have : ([32] : List Int32).length = 1 := rfl; omega, fun x hx => by
      rcases List.mem_append.mp hx with h | h
      · exact hu.2 x h
      · simp only [List.mem_cons, List.not_mem_nil, or_false] at h
        subst h
        decide⟩
    have e2 : t ++ [32] = t0 ++ List.replicate (i + 1) 32 := by rw [ht, List.append_assoc, List.replicate_succ']
    refine y_to (G' := yL w ((yStr w q2 qa2 (t ++ [32]).length g2 ++ a) ++ PL wp h)) (fun H h => by rw [List.append_assoc]; exact h) ?_
    refine y_widen (by omega) (by omega) (ih (i + 1) (by omega) (t ++ [32]) (yStr w q2 qa2 (t ++ [32]).length g2 ++ a) q2 qa2 9 e2 (fun h9 => ?_) hu2)
    rw [List.append_assoc]
    exact yProv_dyn C rfl hg2
theorem P_in {w wp : zW} {p : Program} {l : Launch} {e : Env} {s : State} {m9 : MethodId} {args : Array Value} {below : List Frame} {meth : Method} {c : Code} {Q : State → Prop} {B : Nat} {vx : Option zv} (C : zC w p s m9 args c 6 cL_put RL) (hX : yX w s s.heap) (hN : ∀ q, s.heap.size ≤ q → zA w q) {h : zH} {t : List Int32} {a : va_W} {q qa kq qw k n9 s9 : Nat} (hp : ∀ h9 : zH, yProv w s (a ++ PL wp h9) q qa t) (hu : yOk t) (hk : 20 * (k + 1) ≤ t.length) (hcs9 : n9 ≤ 200 ∧ s9 ≤ 200000)
    (kk : yS w p l e (zRmi 7 300 200 200000) s m9 args below meth c 6 (n9) (s9) Q 95 [some (.inr (7, B)), vx, some (.inr (kq, q)), some (.inl ((20 * k : Nat) : Int)), some (.inr (16, qw)), some (.inl ((20 : Nat) : Int))] [] (yL w ([(qw, .inl (zwA w 16, 5, .inl (fun j => zi (pWo t (20 * k) 20 j))))] ++ (a ++ PL wp h)))) :
    ∀ (d i : Nat), i + d = 20 → yS w p l e (zRmi 7 300 200 200000) s m9 args below meth c 6 (n9) (s9) Q 53 [some (.inr (7, B)), vx, some (.inr (kq, q)), some (.inl ((20 * k : Nat) : Int)), some (.inr (16, qw)), some (.inl ((i : Nat) : Int))] [] (yL w ([(qw, .inl (zwA w 16, 5, .inl (fun j => zi (pWo t (20 * k) i j))))] ++ (a ++ PL wp h))) := by
  have hu1 := hu.1
  intro d
  induction d with
  | zero =>
    intro i hi
    obtain rfl : i = 20 := by omega
    refine y_iload C dL_put_53 rfl ?_
    refine y_bipush C dL_put_55 (by decide) rfl ?_
    refine y_icmp_ge C dL_put_57 (tgt := 95) (by decide) (fun _ => ?_) (fun c1 => absurd (Int.le_refl _) c1)
    exact kk
  | succ d ih =>
    intro i hi
    refine y_iload C dL_put_53 rfl ?_
    refine y_bipush C dL_put_55 (by decide) rfl ?_
    refine y_icmp_ge C dL_put_57 (tgt := 95) (by decide) (fun c1 => by exfalso; omega) (fun _ => ?_)
    refine y_aload C dL_put_60 rfl ?_
    refine y_iload C dL_put_62 rfl ?_
    refine y_iconst C dL_put_64 rfl ?_
    refine y_idiv C dL_put_65 (by decide) ?_
    refine y_num (y := ((i / 4 : Nat) : Int)) (by rw [Int.tdiv_eq_ediv_of_nonneg (by omega), zw_id ⟨by omega, by omega⟩]; omega) ?_
    refine y_dup2 C dL_put_66 ?_
    refine y_iald (i := i / 4) C dL_put_67 rfl (by omega) (pWo_R _ _) ?_
    refine y_aload_n C dL_put_68 rfl ?_
    refine y_iload_n C dL_put_69 rfl ?_
    refine y_iload C dL_put_70 rfl ?_
    refine y_iadd C dL_put_72 ?_
    refine y_num (y := ((20 * k + i : Nat) : Int)) (by rw [zw_id ⟨by omega, by omega⟩]; omega) ?_
    refine y_pureD (v := .inl (t.getD (20 * k + i) 0).toInt) (k := 1) (As := [.inl ((20 * k + i : Nat) : Int)]) (rest := [.inl (pWo t (20 * k) i (i / 4)), .inl ((i / 4 : Nat) : Int), .inr (16, qw)]) C hX (hp h) hu dL_put_73 ⟨rfl, (zmem 767 (by decide +kernel)), (zmem 768 (by decide +kernel)), (zmem 769 (by decide +kernel)), (zmem 32 (by decide +kernel)), (zmem 770 (by decide +kernel)), ⟨by decide, by decide⟩, by decide +kernel⟩ (c_J0_charAtT _ l zH0 (show zTok (zPt w yF q qa t) from hu) ((20 * k + i : Nat) : Int) (by omega) (by show ((20 * k + i : Nat) : Int) < ((t.length : Nat) : Int); omega)) (fun u hu => by simp only [List.mem_cons, List.not_mem_nil, or_false] at hu; exact ⟨_, hu⟩) rfl ⟨Nat.le_of_ble_eq_true rfl, Nat.le_of_ble_eq_true rfl⟩ ⟨by show _ ≤ 200; omega, by show _ ≤ 200000; omega⟩ ⟨rfl, Nat.le_of_ble_eq_true rfl⟩ (zR_of _) ?_
    refine y_bipush C dL_put_76 (by decide) rfl ?_
    refine y_bipush C dL_put_78 (by decide) rfl ?_
    refine y_iload C dL_put_80 rfl ?_
    refine y_iconst C dL_put_82 rfl ?_
    refine y_irem C dL_put_83 (by decide) ?_
    refine y_num (y := ((i % 4 : Nat) : Int)) (by rw [Int.tmod_eq_emod_of_nonneg (by omega)]; omega) ?_
    refine y_imul C dL_put_84 ?_
    refine y_num (y := 8 * ((i % 4 : Nat) : Int)) (zw_id ⟨by omega, by omega⟩) ?_
    refine y_isub C dL_put_85 ?_
    refine y_num (y := 24 - 8 * ((i % 4 : Nat) : Int)) (zw_id ⟨by omega, by omega⟩) ?_
    refine y_ishl C dL_put_86 ?_
    refine y_ior C dL_put_87 ?_
    refine y_iast (i := i / 4) C dL_put_88 rfl (by omega) ?_
    refine y_iinc C dL_put_89 rfl (by decide) ?_
    rw [show zw ((i : Int) + 1) = ((i + 1 : Nat) : Int) by rw [zw_id ⟨by omega, by omega⟩]; omega]
    refine y_goto C dL_put_92 (tgt := 53) (by decide) ?_
    have e : (fun j => zi (if j = i / 4 then zor (pWo t (20 * k) i (i / 4)) (zshl (t.getD (20 * k + i) 0).toInt (24 - 8 * ((i % 4 : Nat) : Int))) else pWo t (20 * k) i j)) = fun j => zi (pWo t (20 * k) (i + 1) j) := by
      funext j
      show zi _ = zi (if j = i / 4 then zor (pWo t (20 * k) i j) _ else _)
      by_cases hj : j = i / 4
      · rw [if_pos hj, if_pos hj, hj]
      · rw [if_neg hj, if_neg hj]
    rw [e]
    exact ih (i + 1) (by omega)
theorem P_out {w wp : zW} {p : Program} {l : Launch} {e : Env} {s : State} {m9 : MethodId} {args : Array Value} {below : List Frame} {meth : Method} {c : Code} {Q : State → Prop} {B : Nat} {vx : Option zv} (C : zC w p s m9 args c 6 cL_put RL) (hX : yX w s s.heap) (hN : ∀ q, s.heap.size ≤ q → zA w q) (P : yPool w wp B) {hs : Nat → zH} {t : List Int32} {a : va_W} {q qa kq : Nat} (hp : ∀ h9 : zH, yProv w s (a ++ PL wp h9) q qa t) (hu : yOk t) (ht : t.length % 20 = 0 ∧ t.length ≤ 1020) (hF : ∀ j, 20 * (j + 1) ≤ t.length → pFeed B t (20 * j) (hs j) (hs (j + 1)))
    (kk : zTy wp (hs (t.length / 20)) → zRg (hs (t.length / 20)) → ∀ l4 l5 : Option zv, yS w p l e (zRmi 7 300 200 200000) s m9 args below meth c 6 (120 + t.length / 20) (150000 + 5 * (t.length / 20)) Q 126 [some (.inr (7, B)), vx, some (.inr (kq, q)), some (.inl ((20 * (t.length / 20) : Nat) : Int)), l4, l5] [] (yL w (a ++ PL wp (hs (t.length / 20))))) :
    ∀ (d k : Nat), k + d = t.length / 20 → zTy wp (hs k) → zRg (hs k) → ∀ l4 l5 : Option zv, yS w p l e (zRmi 7 300 200 200000) s m9 args below meth c 6 (120 + k) (150000 + 5 * k) Q 37 [some (.inr (7, B)), vx, some (.inr (kq, q)), some (.inl ((20 * (k) : Nat) : Int)), l4, l5] [] (yL w (a ++ PL wp (hs k))) := by
  have hu1 := hu.1
  intro d
  induction d with
  | zero =>
    intro k hk hTy hRg l4 l5
    obtain rfl : k = t.length / 20 := by omega
    generalize hh : hs (t.length / 20) = h at *
    refine y_iload_n C dL_put_37 rfl ?_
    refine y_aload_n C dL_put_38 rfl ?_
    refine y_to (G' := yL w (([]) ++ (a ++ PL wp h))) (fun H h => h) ?_
    refine y_pureD (v := .inl ((t.length : Nat) : Int)) (k := 0) (As := []) (rest := [.inl ((20 * (t.length / 20) : Nat) : Int)]) C hX (hp h) hu dL_put_39 ⟨rfl, (zmem 766 (by decide +kernel)), (zmem 572 (by decide +kernel)), (zmem 573 (by decide +kernel)), (zmem 32 (by decide +kernel)), (zmem 574 (by decide +kernel)), ⟨by decide, by decide⟩, by decide +kernel⟩ (c_J0_lengthT _ l zH0 (show zTok (zPt w yF q qa t) from hu)) (fun u hu => by cases hu) rfl ⟨Nat.le_of_ble_eq_true rfl, Nat.le_of_ble_eq_true rfl⟩ ⟨by show _ ≤ 200; omega, by show _ ≤ 200000; omega⟩ ⟨rfl, Nat.le_of_ble_eq_true rfl⟩ (show zR _ from ⟨by omega, by omega⟩) ?_
    refine y_to (G' := yL w (([]) ++ (a ++ PL wp h))) (fun H h => h) ?_
    refine y_icmp_ge C dL_put_42 (tgt := 126) (by decide) (fun _ => ?_) (fun c1 => by exfalso; omega)
    exact kk hTy hRg l4 l5
  | succ d ih =>
    intro k hk hTy hRg l4 l5
    obtain ⟨r, hr, hf⟩ := hF k (by omega)
    generalize hh : hs k = h at *
    refine y_iload_n C dL_put_37 rfl ?_
    refine y_aload_n C dL_put_38 rfl ?_
    refine y_to (G' := yL w (([]) ++ (a ++ PL wp h))) (fun H h => h) ?_
    refine y_pureD (v := .inl ((t.length : Nat) : Int)) (k := 0) (As := []) (rest := [.inl ((20 * k : Nat) : Int)]) C hX (hp h) hu dL_put_39 ⟨rfl, (zmem 766 (by decide +kernel)), (zmem 572 (by decide +kernel)), (zmem 573 (by decide +kernel)), (zmem 32 (by decide +kernel)), (zmem 574 (by decide +kernel)), ⟨by decide, by decide⟩, by decide +kernel⟩ (c_J0_lengthT _ l zH0 (show zTok (zPt w yF q qa t) from hu)) (fun u hu => by cases hu) rfl ⟨Nat.le_of_ble_eq_true rfl, Nat.le_of_ble_eq_true rfl⟩ ⟨by show _ ≤ 200; omega, by show _ ≤ 200000; omega⟩ ⟨rfl, Nat.le_of_ble_eq_true rfl⟩ (show zR _ from ⟨by omega, by omega⟩) ?_
    refine y_to (G' := yL w (([]) ++ (a ++ PL wp h))) (fun H h => h) ?_
    refine y_icmp_ge C dL_put_42 (tgt := 126) (by decide) (fun c1 => by exfalso; omega) (fun _ => ?_)
    refine y_iconst C dL_put_45 rfl ?_
    refine y_newI (N := 5) C (by decide) hN ⟨by show _ ≤ 200; omega, by show _ ≤ 200000; omega⟩ (zmem 235 (by decide +kernel)) dL_put_46 (fun qw => ?_)
    refine y_astore C dL_put_48 (by decide) ?_
    refine y_iconst C dL_put_50 rfl ?_
    refine y_num (y := ((0 : Nat) : Int)) rfl ?_
    refine y_istore C dL_put_51 (by decide) ?_
    refine y_to (G' := yL w ([(qw, .inl (zwA w 16, 5, .inl (fun j => zi (pWo t (20 * k) 0 j))))] ++ (a ++ PL wp h))) (fun H h => h) ?_
    refine P_in (vx := vx) (n9 := 120 + k + 1) (s9 := 150000 + 5 * k + 5) C hX hN hp hu (by omega) ⟨by omega, by omega⟩ ?_ 20 0 rfl
    refine y_aload_n C dL_put_95 rfl ?_
    refine y_aload C dL_put_96 rfl ?_
    refine y_iconst C dL_put_98 rfl ?_
    refine y_iald (i := 0) C dL_put_99 rfl (by decide) (pWo_R _ _) ?_
    refine y_aload C dL_put_100 rfl ?_
    refine y_iconst C dL_put_102 rfl ?_
    refine y_iald (i := 1) C dL_put_103 rfl (by decide) (pWo_R _ _) ?_
    refine y_aload C dL_put_104 rfl ?_
    refine y_iconst C dL_put_106 rfl ?_
    refine y_iald (i := 2) C dL_put_107 rfl (by decide) (pWo_R _ _) ?_
    refine y_aload C dL_put_108 rfl ?_
    refine y_iconst C dL_put_110 rfl ?_
    refine y_iald (i := 3) C dL_put_111 rfl (by decide) (pWo_R _ _) ?_
    refine y_aload C dL_put_112 rfl ?_
    refine y_iconst C dL_put_114 rfl ?_
    refine y_iald (i := 4) C dL_put_115 rfl (by decide) (pWo_R _ _) ?_
    refine y_to (G' := yL w (([(qw, .inl (zwA w 16, 5, .inl (fun j => zi (pWo t (20 * k) 20 j))))] ++ a) ++ PL wp h)) (fun H h => by rw [List.append_assoc]; exact h) ?_
    refine y_callZ (v := .inl r) (k := 5) (As := [.inl (pWo t (20 * k) 20 0), .inl (pWo t (20 * k) 20 1), .inl (pWo t (20 * k) 20 2), .inl (pWo t (20 * k) 20 3), .inl (pWo t (20 * k) 20 4)]) (rest := []) C hX P hTy hRg dL_put_116 mvL_31 (cq_X7_feed wp l h B _ _ _ _ _ r (hs (k + 1)) hf) (fun u hu => by simp only [List.mem_cons, List.not_mem_nil, or_false] at hu; rcases hu with rfl | rfl | rfl | rfl | rfl <;> exact ⟨_, rfl⟩) rfl ⟨Nat.le_of_ble_eq_true rfl, Nat.le_of_ble_eq_true rfl⟩ ⟨by show _ ≤ 200; omega, by show _ ≤ 200000; omega⟩ ⟨rfl, Nat.le_of_ble_eq_true rfl⟩ hr (fun hTy1 hRg1 => ?_)
    refine y_to (G' := yL w (a ++ PL wp (hs (k + 1)))) (fun H h => by rw [List.append_assoc] at h; exact yL_right h) ?_
    refine y_pop C dL_put_119 ?_
    refine y_iinc C dL_put_120 rfl (by decide) ?_
    rw [show zw (((20 * k : Nat) : Int) + 20) = ((20 * (k + 1) : Nat) : Int) by rw [zw_id ⟨by omega, by omega⟩]; omega]
    refine y_goto C dL_put_123 (tgt := 37) (by decide) ?_
    exact y_widen (by omega) (by omega) (ih (k + 1) (by omega) hTy1 hRg1 _ _)
theorem c_L_put (w : zW) (l : Launch) {wp : zW} {B : Nat} (P : yPool w wp B) (hs : Nat → zH) (hTy : zTy wp (hs 0)) (hRg : zRg (hs 0)) (h0 : (zwTl w).length ≤ 1000) (hF : ∀ j, 20 * (j + 1) ≤ (padT (zwTl w)).length → pFeed B (padT (zwTl w)) (20 * j) (hs j) (hs (j + 1))) : yCt w l yL_put cL_put 6 none 7 300 200 200000 [.inr (7, B), .inr (30, zwS w 31)] (yL w (PL wp (hs 0))) (fun r G1 => r = none ∧ zTy wp (hs ((padT (zwTl w)).length / 20)) ∧ zRg (hs ((padT (zwTl w)).length / 20)) ∧ ∃ a, G1 = yL w (a ++ PL wp (hs ((padT (zwTl w)).length / 20)))) := by
  refine yCt.of (own := RL) (loc := [some (.inr (7, B)), some (.inr (30, zwS w 31)), none, none, none, none]) (by decide +kernel) rfl (Nat.le_of_ble_eq_true rfl) (fun k v hk => ?_) ?_
  · exact zloc_ok 4 rfl hk
  intro p e s m9 args below meth c C hX Z1 Z2 Z3 hN
  refine y_aload_n C dL_put_0 rfl ?_
  refine y_astore_n C dL_put_1 (by decide) ?_
  have hT := zTk C
  have hpl := padT_len (t := zwTl w)
  refine y_to (G' := yL w ([] ++ PL wp (hs 0))) (fun H h => h) ?_
  refine y_widen (k := 6 * 0) (n := 7524 * 0) (Nat.le_refl _) (Nat.le_refl _) ?_
  refine P_pad (vx := some (.inr (30, zwS w 31))) C hX hN h0 (fun a q qa kq hp hu => ?_) (padL (zwTl w)) 0 (Nat.zero_add _) (zwTl w) [] (zwS w 31) (zwS w 71) 30 (by simp) (fun h9 => yProv_const C hN) ⟨hT.1, hT.2⟩
  refine y_iconst C dL_put_35 rfl ?_
  refine y_num (y := ((20 * 0 : Nat) : Int)) rfl ?_
  refine y_istore_n C dL_put_36 (by decide) ?_
  refine y_widen (k := 120 + 0) (n := 150000 + 5 * 0) (Nat.le_refl _) (Nat.le_refl _) ?_
  refine P_out (vx := some (.inr (30, zwS w 31))) C hX hN P hp hu ⟨hpl.1, by omega⟩ hF (fun hTy1 hRg1 l4 l5 => ?_) ((padT (zwTl w)).length / 20) 0 (Nat.zero_add _) hTy hRg none none
  exact y_vret C Z1 Z2 ⟨by show _ ≤ 200; omega, by show _ ≤ 200000; omega⟩ dL_put_126 ⟨rfl, hTy1, hRg1, a, rfl⟩
