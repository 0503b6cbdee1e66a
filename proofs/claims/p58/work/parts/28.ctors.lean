/-! The constructors of the class and of the reference. -/
theorem pa5_11 : zPutA RX5 11 5 7 (.array .int) := ⟨RX5, TX5, 8, tyX5, rfl, inT5, by decide, rfl, zmem 217 (by decide +kernel), tyX5_ok, nmX5, by decide +kernel, Or.inr ⟨rfl, rfl⟩⟩
theorem pa6_9 : zPutA RX6 9 6 1 (.array .byte) := ⟨RX6, TX6, 7, tyX6, rfl, inT6, by decide, rfl, zmem 398 (by decide +kernel), tyX6_ok, nmX6, by decide +kernel, Or.inr ⟨rfl, rfl⟩⟩
theorem pa4_9 : zPutA RX4 9 4 2 (.array .int) := ⟨RX4, TX4, 9, tyX4, rfl, inT4, by decide, rfl, zmem 329 (by decide +kernel), tyX4_ok, nmX4, by decide +kernel, Or.inr ⟨rfl, rfl⟩⟩
theorem pa4_17 : zPutA RX4 17 4 4 (.array (.object "SatelliteExchange$Station")) := ⟨RX4, TX4, 9, tyX4, rfl, inT4, by decide, rfl, zmem 335 (by decide +kernel), tyX4_ok, nmX4, by decide +kernel, Or.inr ⟨rfl, rfl⟩⟩
theorem pa4_23 : zPutA RX4 23 4 6 (.array (.object "SatelliteExchange$Rain")) := ⟨RX4, TX4, 9, tyX4, rfl, inT4, by decide, rfl, zmem 339 (by decide +kernel), tyX4_ok, nmX4, by decide +kernel, Or.inr ⟨rfl, rfl⟩⟩
theorem pa4_29 : zPutA RX4 29 4 8 (.array (.object "SatelliteExchange$Call")) := ⟨RX4, TX4, 9, tyX4, rfl, inT4, by decide, rfl, zmem 343 (by decide +kernel), tyX4_ok, nmX4, by decide +kernel, Or.inr ⟨rfl, rfl⟩⟩
theorem pa1_11 : zPutA RX1 11 1 1 (.array (.object "SatelliteExchange$State")) := ⟨RX1, TX1, 2, tyX1, rfl, inT1, by decide, rfl, zmem 377 (by decide +kernel), tyX1_ok, nmX1, by decide +kernel, Or.inr ⟨rfl, rfl⟩⟩
theorem pa2_25 : zPutA RX2 25 2 2 (.int) := ⟨RX2, TX2, 6, tyX2, rfl, inT2, by decide, rfl, zmem 428 (by decide +kernel), tyX2_ok, nmX2, by decide +kernel, Or.inl rfl⟩
theorem pa2_12 : zPutA RX2 12 2 0 (.object "SatelliteExchange$Tokens") := ⟨RX2, TX2, 6, tyX2, rfl, inT2, by decide, rfl, zmem 424 (by decide +kernel), tyX2_ok, nmX2, by decide +kernel, Or.inr ⟨rfl, rfl⟩⟩
theorem pa2_21 : zPutA RX2 21 2 1 (.object "SatelliteExchange$State") := ⟨RX2, TX2, 6, tyX2, rfl, inT2, by decide, rfl, zmem 426 (by decide +kernel), tyX2_ok, nmX2, by decide +kernel, Or.inr ⟨rfl, rfl⟩⟩
theorem pa7_10 : zPutA RX7 10 7 0 (.object "SatelliteExchange$State") := ⟨RX7, TX7, 5, tyX7, rfl, inT7, by decide, rfl, zmem 445 (by decide +kernel), tyX7_ok, nmX7, by decide +kernel, Or.inr ⟨rfl, rfl⟩⟩
theorem pa7_16 : zPutA RX7 16 7 1 (.object "SatelliteExchange$State") := ⟨RX7, TX7, 5, tyX7, rfl, inT7, by decide, rfl, zmem 446 (by decide +kernel), tyX7_ok, nmX7, by decide +kernel, Or.inr ⟨rfl, rfl⟩⟩
theorem pa7_22 : zPutA RX7 22 7 2 (.object "SatelliteExchange$Station") := ⟨RX7, TX7, 5, tyX7, rfl, inT7, by decide, rfl, zmem 447 (by decide +kernel), tyX7_ok, nmX7, by decide +kernel, Or.inr ⟨rfl, rfl⟩⟩
theorem pa7_29 : zPutA RX7 29 7 3 (.object "SatelliteExchange$History") := ⟨RX7, TX7, 5, tyX7, rfl, inT7, by decide, rfl, zmem 448 (by decide +kernel), tyX7_ok, nmX7, by decide +kernel, Or.inr ⟨rfl, rfl⟩⟩
theorem pa7_36 : zPutA RX7 36 7 4 (.object "SatelliteExchange$Loader") := ⟨RX7, TX7, 5, tyX7, rfl, inT7, by decide, rfl, zmem 449 (by decide +kernel), tyX7_ok, nmX7, by decide +kernel, Or.inr ⟨rfl, rfl⟩⟩
theorem zdv_vk {k j b : Nat} {h : zH} (hz : zft k j = 0) (h0 : h.1 b j = 0) : zdv k j = zvk k h b j := by
  unfold zdv zvk
  rw [if_pos hz, if_pos hz, h0]
  split <;> rfl
theorem zdv_i {k : Nat} (hz : (if 9 ≤ k then (zar k).2.1 == 0 && decide ((zar k).2.2 ≠ .long) else false) = true) (j : Nat) : zdv k j = .int 0 := by
  by_cases h9 : 9 ≤ k
  · rw [if_pos h9] at hz
    simp only [Bool.and_eq_true, beq_iff_eq, decide_eq_true_eq] at hz
    have hf : zft k j = (zar k).2.1 := by unfold zft; rw [if_neg (by omega)]
    unfold zdv
    rw [if_pos (by rw [hf]; exact hz.1), if_neg (fun q => hz.2 q.2)]
  · rw [if_neg h9] at hz
    cases hz
theorem zft_num {k : Nat} (h9 : 9 ≤ k) (h0 : (zar k).2.1 = 0) (j : Nat) : zft k j = 0 := by unfold zft; rw [if_neg (by omega)]; exact h0
theorem zset_ne {V : Nat → Nat → Value} {a b i j : Nat} {v : Value} (h : ¬ b = a) : zset V a i v b j = V b j := by unfold zset; rw [if_neg (fun q => h q.1)]
theorem znew_ne {V : Nat → Nat → Value} {n b j : Nat} {f : Nat → Value} (h : ¬ b = n) : znew V n f b j = V b j := by unfold znew; rw [if_neg h]
theorem znew_eq {V : Nat → Nat → Value} {n j : Nat} {f : Nat → Value} : znew V n f n j = f j := by unfold znew; rw [if_pos rfl]
theorem zfin_ge {w : zW} {h : zH} {q b j : Nat} {V : Nat → Nat → Value} (hq : q ≤ b) : zfin w h q V b j = zvl w h b j := by unfold zfin; rw [if_pos hq]
theorem zfin_lt {w : zW} {h : zH} {q b j : Nat} {V : Nat → Nat → Value} (hq : ¬ q ≤ b) : zfin w h q V b j = V b j := by unfold zfin; rw [if_neg hq]
theorem zvl_at {w : zW} {h : zH} {b k j : Nat} (hk : zwK w b = k + 1) : zvl w h b j = zvk k h b j := by unfold zvl; rw [hk]; rfl

theorem i_X0 (w : zW) (l : Launch) (h : zH) (a : Nat) (hk : zwK w a = 1) (h0 : ∀ j, h.1 a j = 0) : zCi w l yX0_init cX0_init 1 1 12 0 0 0 a 1 h := by
  refine zCi.of (own := RX0) (by decide) rfl rfl (Nat.le_refl 1) hk ?_
  intro p e s m args below meth c C hAn Z1 Z2 Z3 hB hsz
  refine u_aload_n C dX0_init_0 List.mem_cons_self ?_
  refine u_objInit C (zmem 262 (by decide +kernel)) dX0_init_1 ⟨by decide, by decide⟩ ?_
  refine u_ret C Z1 Z2 (Nat.le_refl _) (Nat.le_refl _) rfl dX0_init_4 fun b h1 h2 j hj => ?_
  have hb : b = a := by omega
  subst hb
  rw [hk] at hj
  rw [zvl_at hk]
  refine zdv_vk ?_ (h0 j)
  have h9 : ∀ j, j < 11 → zft 0 j = 0 := by decide
  exact h9 j hj

theorem i_X3 (w : zW) (l : Launch) (h : zH) (a : Nat) (hk : zwK w a = 4) (h0 : ∀ j, h.1 a j = 0) : zCi w l yX3_init cX3_init 1 1 12 0 0 3 a 1 h := by
  refine zCi.of (own := RX3) (by decide) rfl rfl (Nat.le_refl 1) hk ?_
  intro p e s m args below meth c C hAn Z1 Z2 Z3 hB hsz
  refine u_aload_n C dX3_init_0 List.mem_cons_self ?_
  refine u_objInit C (zmem 240 (by decide +kernel)) dX3_init_1 ⟨by decide, by decide⟩ ?_
  refine u_ret C Z1 Z2 (Nat.le_refl _) (Nat.le_refl _) rfl dX3_init_4 fun b h1 h2 j hj => ?_
  have hb : b = a := by omega
  subst hb
  rw [hk] at hj
  rw [zvl_at hk]
  refine zdv_vk ?_ (h0 j)
  have h9 : ∀ j, j < 4 → zft 3 j = 0 := by decide
  exact h9 j hj

theorem i_X5 (w : zW) (l : Launch) (h : zH) (a : Nat) (hk : zwK w a = 6) (hk1 : zwK w (a + 1) = 11) (hr : h.2 a 7 = a + 1) (h0 : ∀ j, h.1 a j = 0) (h1 : ∀ j, h.1 (a + 1) j = 0) : zCi w l yX5_init cX5_init 1 1 13 1 64 5 a 2 h := by
  refine zCi.of (own := RX5) (by decide) rfl rfl (Nat.le_refl 1) hk ?_
  intro p e s m args below meth c C hAn Z1 Z2 Z3 hB hsz
  refine u_aload_n C dX5_init_0 List.mem_cons_self ?_
  refine u_objInit C (zmem 202 (by decide +kernel)) dX5_init_1 ⟨by decide, by decide⟩ ?_
  refine u_aload_n C dX5_init_4 List.mem_cons_self ?_
  refine u_bipush C dX5_init_5 (by decide) ?_
  refine u_newI (k := 10) (N := 64) C hAn ⟨by decide, by decide⟩ rfl rfl (zmem 235 (by decide +kernel)) (by decide) ⟨by decide, by decide⟩ (fun j => (zdv_i rfl j).symm) hk1 ⟨by decide, by decide⟩ dX5_init_7 ?_
  refine u_put C Z3 dX5_init_9 pa5_11 (by decide) hk ⟨Nat.le_refl _, by omega⟩ rfl rfl ?_
  refine u_ret C Z1 Z2 (by decide) (by decide) rfl dX5_init_12 fun b q1 q2 j hj => ?_
  by_cases hb : b = a
  · subst hb
    rw [zvl_at hk]
    rw [hk] at hj
    unfold zset
    by_cases hjs : j = 7
    · subst hjs
      rw [if_pos ⟨rfl, rfl⟩]
      show _ = Value.ref (h.2 b 7)
      rw [hr]
    · rw [if_neg (fun q => hjs q.2)]
      unfold znew
      rw [if_neg (by omega)]
      refine zdv_vk ?_ (h0 j)
      have h9 : ∀ j, j < 8 → j ≠ 7 → zft 5 j = 0 := by decide
      exact h9 j hj hjs
  · have hb2 : b = a + 1 := by omega
    subst hb2
    rw [zvl_at hk1]
    unfold zset
    rw [if_neg (fun q => hb q.1)]
    unfold znew
    rw [if_pos rfl]
    exact zdv_vk (zft_num (by decide) rfl j) (h1 j)

theorem i_X6 (w : zW) (l : Launch) (h : zH) (a : Nat) (hk : zwK w a = 7) (hk1 : zwK w (a + 1) = 15) (hr : h.2 a 1 = a + 1) (h0 : ∀ j, h.1 a j = 0) (h1 : ∀ j, h.1 (a + 1) j = 0) : zCi w l yX6_init cX6_init 1 1 13 1 1000 6 a 2 h := by
  refine zCi.of (own := RX6) (by decide) rfl rfl (Nat.le_refl 1) hk ?_
  intro p e s m args below meth c C hAn Z1 Z2 Z3 hB hsz
  refine u_aload_n C dX6_init_0 List.mem_cons_self ?_
  refine u_objInit C (zmem 394 (by decide +kernel)) dX6_init_1 ⟨by decide, by decide⟩ ?_
  refine u_aload_n C dX6_init_4 List.mem_cons_self ?_
  refine u_sipush C dX6_init_5 (by decide) ?_
  refine u_newI (k := 14) (N := 1000) C hAn ⟨by decide, by decide⟩ rfl rfl (zmem 131 (by decide +kernel)) (by decide) ⟨by decide, by decide⟩ (fun j => (zdv_i rfl j).symm) hk1 ⟨by decide, by decide⟩ dX6_init_8 ?_
  refine u_put C Z3 dX6_init_10 pa6_9 (by decide) hk ⟨Nat.le_refl _, by omega⟩ rfl rfl ?_
  refine u_ret C Z1 Z2 (by decide) (by decide) rfl dX6_init_13 fun b q1 q2 j hj => ?_
  by_cases hb : b = a
  · subst hb
    rw [zvl_at hk]
    rw [hk] at hj
    unfold zset
    by_cases hjs : j = 1
    · subst hjs
      rw [if_pos ⟨rfl, rfl⟩]
      show _ = Value.ref (h.2 b 1)
      rw [hr]
    · rw [if_neg (fun q => hjs q.2)]
      unfold znew
      rw [if_neg (by omega)]
      refine zdv_vk ?_ (h0 j)
      have h9 : ∀ j, j < 7 → j ≠ 1 → zft 6 j = 0 := by decide
      exact h9 j hj hjs
  · have hb2 : b = a + 1 := by omega
    subst hb2
    rw [zvl_at hk1]
    unfold zset
    rw [if_neg (fun q => hb q.1)]
    unfold znew
    rw [if_pos rfl]
    exact zdv_vk (zft_num (by decide) rfl j) (h1 j)

/-- a row of references is filled with new objects: behind i rounds -/
def zfl (w : zW) (h : zH) (arr n0 bs i : Nat) (V : Nat → Nat → Value) : Nat → Nat → Value := fun b j => if b = arr then (if j < i then .ref (n0 + bs * j) else .null) else if n0 ≤ b then zvl w h b j else V b j
section ZF
variable {w : zW} {p : Program} {l : Launch} {e : Env} {R : Room} {s : State} {m : MethodId} {args : Array Value} {below : List Frame} {meth : Method} {c : Code} {nL : Nat} {Q : State → Prop}
variable {cc : ByteArray} {own : String} {a : Nat} {h : zH}
theorem u_fill (C : zC w p s m args c nL cc own) (hnL : 1 < nL) {p0 N fidx fj cfi cidx k ci arr n0 bs mc ms NN pe : Nat} {off back : Int} {Cn : String} {T : u_T} {ty0 : Nat → FieldType} {V0 : Nat → Nat → Value}
    (d0 : decode cc p0 = .ok (.iload_n 1, 1)) (d1 : decode cc (p0 + 1) = .ok (.bipush (N : Int), 2)) (d1v : (Int8.ofInt (N : Int)).toInt32 = zi (N : Int)) (d3 : decode cc (p0 + 3) = .ok (.if_icmp .ge off, 3)) (hpe : ((p0 + 3 : Nat) : Int) + off = (pe : Int)) (d6 : decode cc (p0 + 6) = .ok (.aload_n 0, 1)) (d7 : decode cc (p0 + 7) = .ok (.getfield fidx, 3)) (d10 : decode cc (p0 + 10) = .ok (.iload_n 1, 1)) (d11 : decode cc (p0 + 11) = .ok (.new cidx, 3)) (d14 : decode cc (p0 + 14) = .ok (.dup, 1)) (d18 : decode cc (p0 + 18) = .ok (.aastore, 1)) (d19 : decode cc (p0 + 19) = .ok (.iinc 1 1, 3)) (d22 : decode cc (p0 + 22) = .ok (.goto back, 3)) (hback : ((p0 + 22 : Nat) : Int) + back = (p0 : Int))
    (hN : N ≤ 16) (hfld : zFld own fidx cfi fj) (hka : zwK w a = cfi + 1) (hfa : V0 a fj = .ref arr) (harr : a < arr ∧ arr < n0) (hk : 9 ≤ k ∧ k < 22) (hty : (zar k).2.2 = .object Cn) (hnk : zn k = N) (hkarr : zwK w arr = k + 1) (hci : ci < 9) (hc : vwCl[ci]? = some (Cn, T, NN)) (hinT : ∀ x ∈ u_ws Cn T NN, x ∈ zw_T) (hNN : NN = zn ci) (htys : ∀ k, k < NN → parseFieldDescriptor (T k).2.2.1 = some (ty0 k)) (hdv : ∀ j, j < NN → defaultValue (ty0 j) = zdv ci j) (hcl : Cond.classLink own cidx Cn ∈ zw_T) (hinst : Cond.instantiable Cn NN ∈ zw_T) (hini : Cond.initialized Cn ∈ zw_T)
    (hkq : ∀ i, i < N → zwK w (n0 + bs * i) = ci + 1) (hbs : 1 ≤ bs)
    (hcall : ∀ i, i < N → ∀ (cells slots : Nat) (V : Nat → Nat → Value), cells + mc ≤ R.cells → slots + ms ≤ R.slots → (∀ j, V (n0 + bs * i) j = zdv ci j) → zU w p l e R s m args below meth c nL (cells + mc) (slots + ms) Q a (n0 + bs * i + bs) (p0 + 15 + 3) [(0, .ref a), (1, .int (zi (i : Int)))] [.ref (n0 + bs * i), .int (zi (i : Int)), .ref arr] (zfin w h (n0 + bs * i) V) → zU w p l e R s m args below meth c nL cells slots Q a (n0 + bs * i + 1) (p0 + 15) [(0, .ref a), (1, .int (zi (i : Int)))] [.ref (n0 + bs * i), .ref (n0 + bs * i), .int (zi (i : Int)), .ref arr] V) :
    ∀ (rem i cells slots : Nat), i + rem = N → cells + rem * (mc + 1) ≤ R.cells → slots + rem * (ms + NN) ≤ R.slots →
      zU w p l e R s m args below meth c nL (cells + rem * (mc + 1)) (slots + rem * (ms + NN)) Q a (n0 + bs * N) pe [(0, .ref a), (1, .int (zi (N : Int)))] [] (zfl w h arr n0 bs N V0) →
      zU w p l e R s m args below meth c nL cells slots Q a (n0 + bs * i) p0 [(0, .ref a), (1, .int (zi (i : Int)))] [] (zfl w h arr n0 bs i V0) := by
  intro rem
  induction rem with
  | zero =>
    intro i cells slots hi h1 h2 kk
    have hiN : i = N := by omega
    subst hiN
    refine u_iload_n C d0 (List.mem_cons_of_mem _ List.mem_cons_self) ?_
    refine u_bipush C d1 d1v ?_
    refine u_icmp_ge C ⟨by omega, by omega⟩ ⟨by omega, by omega⟩ d3 hpe (fun _ => ?_) (fun q => absurd q (Int.lt_irrefl _))
    simpa using kk
  | succ rem ih =>
    intro i cells slots hi h1 h2 kk
    have hiN : i < N := by omega
    have hm1 : (rem + 1) * (mc + 1) = rem * (mc + 1) + (mc + 1) := Nat.succ_mul _ _
    have hm2 : (rem + 1) * (ms + NN) = rem * (ms + NN) + (ms + NN) := Nat.succ_mul _ _
    refine u_iload_n C d0 (List.mem_cons_of_mem _ List.mem_cons_self) ?_
    refine u_bipush C d1 d1v ?_
    refine u_icmp_ge C ⟨by omega, by omega⟩ ⟨by omega, by omega⟩ d3 hpe (fun q => absurd q (by omega)) (fun _ => ?_)
    refine u_aload_n C d6 List.mem_cons_self ?_
    refine u_get (x := arr) C d7 hfld hka ⟨Nat.le_refl _, by omega⟩ (by
      unfold zfl
      rw [if_neg (by omega), if_neg (by omega)]
      exact hfa) ?_
    refine u_iload_n C d10 (List.mem_cons_of_mem _ List.mem_cons_self) ?_
    refine u_new C hc hinT hNN htys hdv hci hcl hinst hini (hkq i hiN) ⟨by omega, by omega⟩ d11 ?_
    refine u_dup C d14 ?_
    refine hcall i hiN _ _ _ (by omega) (by omega) (fun j => by unfold znew; rw [if_pos rfl]) ?_
    refine u_aast C hk hty hnk hiN (by omega) hkarr (hkq i hiN) hci ⟨T, NN, hc⟩ ⟨by omega, by omega⟩ ⟨by omega, by omega⟩ d18 ?_
    refine u_iinc1 C (by omega) d19 hnL ?_
    refine u_goto C d22 hback ?_
    have hn1 : n0 + bs * i + bs = n0 + bs * (i + 1) := by rw [Nat.mul_succ]; omega
    rw [hn1]
    refine u_to (V' := zfl w h arr n0 bs (i + 1) V0) (fun b hb1 hb2 j hj => ?_) (ih (i + 1) (cells + 1 + mc) (slots + NN + ms) (by omega) (by omega) (by omega) ?_)
    · unfold zset
      by_cases hba : b = arr
      · subst hba
        by_cases hji : j = i
        · subst hji
          rw [if_pos ⟨rfl, rfl⟩]
          unfold zfl
          rw [if_pos rfl, if_pos (by omega)]
        · rw [if_neg (fun q => hji q.2)]
          unfold zfin
          rw [if_neg (by omega)]
          unfold znew
          rw [if_neg (by omega)]
          unfold zfl
          rw [if_pos rfl, if_pos rfl]
          by_cases hlt : j < i
          · rw [if_pos hlt, if_pos (by omega)]
          · rw [if_neg hlt, if_neg (by omega)]
      · rw [if_neg (fun q => hba q.1)]
        unfold zfin
        by_cases hbq : n0 + bs * i ≤ b
        · rw [if_pos hbq]
          unfold zfl
          rw [if_neg hba, if_pos (by omega)]
        · rw [if_neg hbq]
          unfold znew
          rw [if_neg (by omega)]
          unfold zfl
          rw [if_neg hba, if_neg hba]
    · rw [show cells + 1 + mc + rem * (mc + 1) = cells + (rem + 1) * (mc + 1) by omega, show slots + NN + ms + rem * (ms + NN) = slots + (rem + 1) * (ms + NN) by omega]
      exact kk
end ZF

/-! A State: its 41 cells. -/
def skK (o : Nat) : Nat := if o = 0 then 5 else if o = 1 then 10 else if o = 2 then 12 else if o = 3 then 13 else if o = 4 then 14 else if o < 17 then (if o % 2 = 1 then 6 else 11) else if o < 25 then 4 else if o < 41 then 1 else 0
def skO (o j : Nat) : Nat := if o = 0 then (if j = 2 then 1 else if j = 4 then 2 else if j = 6 then 3 else if j = 8 then 4 else 0) else if o = 2 then 5 + 2 * j else if o = 3 then 17 + j else if o = 4 then 25 + j else if j = 7 then o + 1 else 0
def skI (o j : Nat) : Int := if o = 0 ∧ j = 1 then 1 else if o = 1 ∧ j < 7 then zsV 2 j else 0
def zLSt (w : zW) (h : zH) (A : Nat) : Prop := ∀ o, o < 41 → zwK w (A + o) = skK o ∧ ∀ j, h.2 (A + o) j = A + skO o j ∧ h.1 (A + o) j = skI o j
theorem skT : ∀ o, o < 41 → ∀ j, j < 16 → j < zn (skK o - 1) → zft (skK o - 1) j ≠ 0 → skO o j < 41 ∧ skK (skO o j) = zft (skK o - 1) j := by decide +kernel
theorem skT16 : ∀ o, o < 41 → 16 < zn (skK o - 1) → 9 ≤ skK o - 1 ∧ (zar (skK o - 1)).2.1 = 0 := by decide +kernel
theorem skK_b : ∀ o, o < 41 → 1 ≤ skK o ∧ skK o ≤ 22 := by decide +kernel
/-- a part of the world: the cells from A on, k of them -/
def zsub (w : zW) (A k : Nat) : zW := (zwD w, zwA w, A, (List.range k).map (fun i => A + i), (fun a => if (A ≤ a ∧ a < A + k) ∨ 22 < zwK w a then zwK w a else 0), zwS w, zwU w, zwN w, zwX w, zwTl w)
theorem zsub_in {w : zW} {A k b : Nat} (h1 : A ≤ b) (h2 : b < A + k) : zwK (zsub w A k) b = zwK w b := by
  show (if (A ≤ b ∧ b < A + k) ∨ 22 < zwK w b then zwK w b else 0) = _
  rw [if_pos (Or.inl ⟨h1, h2⟩)]
theorem zsub_big {w : zW} {A k b : Nat} (h1 : 22 < zwK w b) : zwK (zsub w A k) b = zwK w b := by
  show (if (A ≤ b ∧ b < A + k) ∨ 22 < zwK w b then zwK w b else 0) = _
  rw [if_pos (Or.inr h1)]
theorem zsub_own {w : zW} {A k b : Nat} (h : zwK (zsub w A k) b ≠ 0 ∧ zwK (zsub w A k) b ≤ 22) : A ≤ b ∧ b < A + k := by
  have h' : (if (A ≤ b ∧ b < A + k) ∨ 22 < zwK w b then zwK w b else 0) ≠ 0 ∧ (if (A ≤ b ∧ b < A + k) ∨ 22 < zwK w b then zwK w b else 0) ≤ 22 := h
  split at h'
  · rename_i hq
    rcases hq with hq | hq
    · exact hq
    · exact absurd h'.2 (by omega)
  · exact absurd rfl h'.1
theorem zsub_vl {w : zW} {A k b : Nat} {h : zH} (h1 : A ≤ b) (h2 : b < A + k) (j : Nat) : zvl (zsub w A k) h b j = zvl w h b j := by unfold zvl; rw [zsub_in h1 h2]
theorem zcell_sub {w : zW} {A n k b : Nat} {V : Nat → Value} {H : Heap} : zcell (zsub w A n) k b V H ↔ zcell w k b V H := Iff.rfl
theorem zKn.sub {w : zW} {U : State} {A k : Nat} (h : zKn w U) (h1 : zwB w ≤ A) (h2 : A ≤ U.heap.size) : zKn (zsub w A k) U := by
  obtain ⟨q1, q2, ⟨s1, s2, s3, s4, s5, s6, s7, s8, s9, s10, s11⟩, q4⟩ := h
  have hA : ∀ q, zA (zsub w A k) q → zA w q := fun q hq => ⟨Nat.le_trans h1 hq.1, hq.2⟩
  refine ⟨q1, q2, ⟨fun i hi => ⟨?_, va_Z.narrow (s1 i hi).2.1 hA, va_T.narrow (s1 i hi).2.2 hA⟩, va_Z.narrow s2 hA, vk_S.narrow s3 hA, fun i hi => ⟨?_, ?_⟩, va_Zq.narrow s5 hA, vx_Zq.narrow s6 hA, vx_Zq.narrow s7 hA, ⟨?_, va_T.narrow s8.2 hA⟩, s9, ⟨⟨?_, ?_⟩, vk_S.narrow s10.2 hA⟩, s11⟩, h2⟩
  · exact (zsub_big (show 22 < zwK w (zwS w (20 + i)) by rw [(s1 i hi).1]; decide)).trans (s1 i hi).1
  · exact (zsub_big (show 22 < zwK w (zwS w i) by rw [(s4 i hi).1]; decide)).trans (s4 i hi).1
  · exact (zsub_big (show 22 < zwK w (zwS w (40 + i)) by rw [(s4 i hi).2]; decide)).trans (s4 i hi).2
  · exact (zsub_big (show 22 < zwK w (zwS w 30) by rw [s8.1]; decide)).trans s8.1
  · exact (zsub_big (show 22 < zwK w (zwS w 31) by rw [s10.1.1]; decide)).trans s10.1.1
  · exact (zsub_big (show 22 < zwK w (zwS w 71) by rw [s10.1.2]; decide)).trans s10.1.2
theorem zn_big {k : Nat} (h : 22 ≤ k) : zn k = 0 := by
  unfold zn
  rw [if_neg (by omega)]
  unfold zar
  rw [List.getD_eq_getElem?_getD, List.getElem?_eq_none (by show 13 ≤ k - 9; omega)]
  rfl
/-- what is typed within its own part -/
theorem zTy.sub {w : zW} {h : zH} {A k : Nat} (ht : ∀ b, A ≤ b → b < A + k → ∀ j, j < zn (zwK w b - 1) → zft (zwK w b - 1) j ≠ 0 → A ≤ h.2 b j ∧ h.2 b j < A + k ∧ zwK w (h.2 b j) = zft (zwK w b - 1) j) : zTy (zsub w A k) h := by
  intro b j h1 h2 h3
  by_cases hq : zwK (zsub w A k) b ≤ 22
  · obtain ⟨g1, g2⟩ := zsub_own ⟨h1, hq⟩
    rw [zsub_in g1 g2] at h2 h3 ⊢
    obtain ⟨t1, t2, t3⟩ := ht b g1 g2 j h2 h3
    rw [zsub_in t1 t2]
    exact t3
  · rw [zn_big (by omega)] at h2
    omega
theorem zcell.lt {w : zW} {k b : Nat} {V : Nat → Value} {H : Heap} (h : zcell w k b V H) : b < H.size := by
  unfold zcell at h
  split at h
  · obtain ⟨cell, q, -⟩ := h
    exact (Array.getElem?_eq_some_iff.mp q).1
  · exact (Array.getElem?_eq_some_iff.mp h).1
/-- a constructor's end, from within its part of the world -/
theorem u_retV {w : zW} {p : Program} {l : Launch} {e : Env} {R : Room} {s : State} {m : MethodId} {args : Array Value} {below : List Frame} {meth : Method} {c : Code} {nL cells slots : Nat} {cc : ByteArray} {own : String} {a pc : Nat} {loc : List (Option zv)} {h h' : zH} {k mc ms : Nat}
    (C : zC (zsub w a k) p s m args c nL cc own) (hr : meth.sig.returnType = none) (hlk : meth.locks = false) (hc : cells ≤ mc) (hs : slots ≤ ms) (hk0 : 1 ≤ k) (hsz : s.heap.size + cells = a + k) (hd : decode cc pc = .ok (.return_, 1)) (hkd : ∀ b, a ≤ b → b < a + k → zwK w b ≠ 0 ∧ zwK w b ≤ 22) (hv : ∀ b, a ≤ b → b < a + k → ∀ j, j < zn (zwK w b - 1) → zvl w h' b j = zvl w h b j) :
    zV (zsub w a k) p l e R s m args below meth c nL cells slots (MQ below (zQi w a k h) args s mc ms (fun q => a ≤ q)) pc loc [] h' := by
  intro H locs ls hR hS hl hk ho T hT X
  obtain ⟨hx, hb, hml, hown, hts, hK⟩ := C
  have hcell : ∀ b, a ≤ b → b < a + k → zcell w (zwK w b - 1) b (zvl w h' b) H := fun b h1 h2 => by
    have e1 := zsub_in (w := w) (k := k) h1 h2
    have := hR.cell (a := b) (by rw [e1]; exact (hkd b h1 h2).1) (by rw [e1]; exact (hkd b h1 h2).2)
    rw [e1] at this
    exact (zcell_sub.mp this).to fun j _ => zsub_vl h1 h2 j
  have hup : T.heap.size ≤ s.heap.size + cells := X.same.2.2.1
  have hlo := (hcell (a + k - 1) (by omega) (by omega)).lt
  have hsize : H.size = a + k := by rw [hT] at hup; omega
  refine W.widen hc hs (W.vret hx hb hr (fun t ht hW => ⟨⟨rfl, ?_⟩, (va_S.wider (fun q (hq : zA (zsub w a k) q) => hq.1) hS).F ht⟩) (fun l hl => (hS.2.2 l hl).1) hd hlk) T hT X
  rw [ht]
  exact ⟨hsize, fun b h1 h2 => (hcell b h1 h2).to (hv b h1 h2)⟩
/-- the cells of a State before 'clear' -/
def zpre (h : zH) (A : Nat) : zH := (fun b j => if b = A ∨ b = A + 1 then 0 else h.1 b j, h.2)
theorem st_eq {w : zW} {h : zH} {A : Nat} (hL : zLSt w h A) {o : Nat} (ho : o < 41) : zwK w (A + o) = skK o := (hL o ho).1
theorem u_n {w : zW} {p : Program} {l : Launch} {e : Env} {R : Room} {s : State} {m : MethodId} {args : Array Value} {below : List Frame} {meth : Method} {c : Code} {nL cells slots : Nat} {Q : State → Prop} {a n n' pc : Nat} {loc : List (Nat × Value)} {stk : List Value} {V : Nat → Nat → Value} (hn : n = n')
    (kk : zU w p l e R s m args below meth c nL cells slots Q a n' pc loc stk V) : zU w p l e R s m args below meth c nL cells slots Q a n pc loc stk V := by subst hn; exact kk
theorem u_cs {w : zW} {p : Program} {l : Launch} {e : Env} {R : Room} {s : State} {m : MethodId} {args : Array Value} {below : List Frame} {meth : Method} {c : Code} {nL cells slots cells' slots' : Nat} {Q : State → Prop} {a n pc : Nat} {loc : List (Nat × Value)} {stk : List Value} {V : Nat → Nat → Value} (h1 : cells = cells') (h2 : slots = slots')
    (kk : zU w p l e R s m args below meth c nL cells' slots' Q a n pc loc stk V) : zU w p l e R s m args below meth c nL cells slots Q a n pc loc stk V := by subst h1; subst h2; exact kk
/-- from the cells to the pool of a part of the world -/
theorem u_toV {w : zW} {p : Program} {l : Launch} {e : Env} {R : Room} {s : State} {m : MethodId} {args : Array Value} {below : List Frame} {meth : Method} {c : Code} {nL cells slots : Nat} {Q : State → Prop} {a k pc : Nat} {loc : List (Nat × Value)} {locz : List (Option zv)} {h : zH}
    (hU : ∀ q, zwU w q) (hT : zTy (zsub w a k) h) (hG : zRg h) (hloc : ∀ q ∈ zlo 0 locz, q ∈ loc) (hok : ∀ v, some v ∈ locz → zok (zsub w a k) v) (kk : zV (zsub w a k) p l e R s m args below meth c nL cells slots Q pc locz [] h) : zU w p l e R s m args below meth c nL cells slots Q a (a + k) pc loc [] (zvl w h) := by
  intro H locs ls h1 h2 h3
  refine kk H locs ls (zRel.ofRaw (k := k) hU rfl (fun b hb => zsub_own hb) hT hG ⟨h1.1, fun b g1 g2 => ?_⟩) (va_S.wider (fun q hq => ⟨hq, hU q⟩) h2) (zlo_sub h3 hloc) (fun v hv => nomatch hv) hok
  have e1 := zsub_in (w := w) (k := k) (A := a) g1 g2
  rw [e1]
  exact zcell_sub.mpr ((h1.2 b g1 g2).to fun j _ => (zsub_vl g1 g2 j).symm)
def zst4 (A : Nat) : Nat → Nat → Value := fun b j => if b = A then (if j = 2 then .ref (A + 1) else if j = 4 then .ref (A + 2) else if j = 6 then .ref (A + 3) else if j = 8 then .ref (A + 4) else .int 0) else if b = A + 1 then .int 0 else .null
theorem st_t0 : ∀ j, j < 9 → j ≠ 2 → j ≠ 4 → j ≠ 6 → j ≠ 8 → zft 4 j = 0 := by decide
theorem st_z4 {j : Nat} (h : j < 9) (h2 : j ≠ 2) (h4 : j ≠ 4) (h6 : j ≠ 6) (h8 : j ≠ 8) : zdv 4 j = .int 0 := by
  unfold zdv
  rw [if_pos (st_t0 j h h2 h4 h6 h8), if_neg (fun q => absurd q.1 (by decide))]
theorem st_I {o : Nat} (h : 2 ≤ o) (j : Nat) : skI o j = 0 := by unfold skI; rw [if_neg (by omega), if_neg (by omega)]
theorem st_5 : ∀ i, i < 6 → skK (5 + 2 * i) = 6 ∧ skK (6 + 2 * i) = 11 ∧ skO (5 + 2 * i) 7 = 6 + 2 * i := by decide
theorem st_17 : ∀ i, i < 8 → skK (17 + i) = 4 := by decide
theorem st_25 : ∀ i, i < 16 → skK (25 + i) = 1 := by decide
/-- .. of a State -/
theorem st_Ty {w : zW} {h : zH} {A : Nat} (hL : zLSt w h A) {h' : zH} (h2 : h'.2 = h.2) : zTy (zsub w A 41) h' := by
  refine zTy.sub fun b g1 g2 j hj hf => ?_
  obtain ⟨o, rfl⟩ : ∃ o, b = A + o := ⟨b - A, by omega⟩
  have ho : o < 41 := by omega
  rw [h2]
  obtain ⟨e1, e2⟩ := hL o ho
  rw [e1] at hj hf ⊢
  rw [(e2 j).1]
  have hj16 : j < 16 := by
    rcases Nat.lt_or_ge j 16 with q | q
    · exact q
    · obtain ⟨t1, t2⟩ := skT16 o ho (by omega)
      exact absurd (zft_num t1 t2 j) hf
  obtain ⟨t1, t2⟩ := skT o ho j hj16 hj hf
  rw [(hL _ t1).1]
  exact ⟨by omega, by omega, t2⟩
theorem zcl_eq {w : zW} {h : zH} {A : Nat} (hL : zLSt w h A) : ∀ b, A ≤ b → b < A + 41 → ∀ j, j < zn (zwK w b - 1) → zvl w (zcpyT (zput (zput (zput (zput (zput (zpre h A) A 0 0) A 1 1) A 3 0) A 5 0) A 7 0) 2 (h.2 A 2)) b j = zvl w h b j := by
  intro b g1 g2 j hj
  obtain ⟨o, rfl⟩ : ∃ o, b = A + o := ⟨b - A, by omega⟩
  have ho : o < 41 := by omega
  unfold zvl zvk
  have e2 : (zcpyT (zput (zput (zput (zput (zput (zpre h A) A 0 0) A 1 1) A 3 0) A 5 0) A 7 0) 2 (h.2 A 2)).2 = h.2 := rfl
  have hA1 : h.2 A 2 = A + 1 := by have := ((hL 0 (by decide)).2 2).1; exact this
  have e1 : (zcpyT (zput (zput (zput (zput (zput (zpre h A) A 0 0) A 1 1) A 3 0) A 5 0) A 7 0) 2 (h.2 A 2)).1 (A + o) j = h.1 (A + o) j := by
    have hv := ((hL o ho).2 j).2
    rw [hv, hA1]
    show (if A + o = A + 1 ∧ j < 7 then zsV 2 j else if A + o = A ∧ j = 7 then (0 : Int) else if A + o = A ∧ j = 5 then 0 else if A + o = A ∧ j = 3 then 0 else if A + o = A ∧ j = 1 then 1 else if A + o = A ∧ j = 0 then 0 else if A + o = A ∨ A + o = A + 1 then 0 else h.1 (A + o) j) = _
    rw [hv]
    unfold skI
    by_cases h0 : o = 0
    · subst h0
      simp only [Nat.add_zero, true_and, true_or, if_true, show ¬ (A = A + 1) by omega, false_and, if_false]
      by_cases h7 : j = 1
      · subst h7; simp
      · simp [h7]
    · by_cases h1 : o = 1
      · subst h1
        by_cases h7 : j < 7
        · simp [h7]
        · simp [h7]
      · simp [h0, h1]
  rw [e1, e2]
theorem st_Rg {h : zH} {A : Nat} (hG : zRg h) : zRg (zpre h A) := by
  intro b j
  show zR (if b = A ∨ b = A + 1 then 0 else h.1 b j)
  split
  · exact zR_0
  · exact hG b j
theorem st_end {w : zW} {h : zH} {A : Nat} (hL : zLSt w h A) : ∀ b, A ≤ b → b < A + 41 → ∀ j, j < zn (zwK w b - 1) → zfl w h (A + 4) (A + 25) 1 16 (zfl w h (A + 3) (A + 17) 1 8 (zfl w h (A + 2) (A + 5) 2 6 (zst4 A))) b j = zvl w (zpre h A) b j := by
  intro b g1 g2 j hj
  obtain ⟨o, rfl⟩ : ∃ o, b = A + o := ⟨b - A, by omega⟩
  have ho : o < 41 := by omega
  obtain ⟨hk, hr⟩ := hL o ho
  have hbig : 5 ≤ o → zvl w h (A + o) j = zvl w (zpre h A) (A + o) j := fun h5 => by
    unfold zvl zvk zpre
    simp only [show ¬ (A + o = A ∨ A + o = A + 1) by omega, if_false]
  rw [hk] at hj
  unfold zfl
  by_cases h25 : 25 ≤ o
  · rw [if_neg (by omega), if_pos (by omega)]; exact hbig (by omega)
  by_cases h4 : o = 4
  · subst h4
    rw [if_pos rfl, zvl_at (k := 13) (by rw [hk]; rfl)]
    rw [if_pos (show j < 16 from hj)]
    show _ = Value.ref (h.2 (A + 4) j)
    rw [(hr j).1]
    exact congrArg Value.ref (show A + 25 + 1 * j = A + (25 + j) by omega)
  rw [if_neg (by omega), if_neg (by omega)]
  by_cases h17 : 17 ≤ o
  · rw [if_neg (by omega), if_pos (by omega)]; exact hbig (by omega)
  by_cases h3 : o = 3
  · subst h3
    rw [if_pos rfl, zvl_at (k := 12) (by rw [hk]; rfl)]
    rw [if_pos (show j < 8 from hj)]
    show _ = Value.ref (h.2 (A + 3) j)
    rw [(hr j).1]
    exact congrArg Value.ref (show A + 17 + 1 * j = A + (17 + j) by omega)
  rw [if_neg (by omega), if_neg (by omega)]
  by_cases h5 : 5 ≤ o
  · rw [if_neg (by omega), if_pos (by omega)]; exact hbig h5
  by_cases h2 : o = 2
  · subst h2
    rw [if_pos rfl, zvl_at (k := 11) (by rw [hk]; rfl)]
    rw [if_pos (show j < 6 from hj)]
    show _ = Value.ref (h.2 (A + 2) j)
    rw [(hr j).1]
    exact congrArg Value.ref (show A + 5 + 2 * j = A + (5 + 2 * j) by omega)
  rw [if_neg (by omega), if_neg (by omega)]
  unfold zst4
  by_cases h1 : o = 1
  · subst h1
    rw [if_neg (by omega), if_pos rfl, zvl_at (k := 9) (by rw [hk]; rfl)]
    unfold zvk zpre
    rw [if_pos (zft_num (by decide) rfl j)]
    simp
    rfl
  have h0 : o = 0 := by omega
  subst h0
  have hj9 : j < 9 := hj
  rw [if_pos (by omega), zvl_at (k := 4) (by rw [hk]; rfl)]
  have hrj := (hr j).1
  unfold zvk
  by_cases e2 : j = 2
  · subst e2; rw [if_pos rfl]; show _ = Value.ref (h.2 (A + 0) 2); rw [hrj]; rfl
  by_cases e4 : j = 4
  · subst e4; rw [if_neg e2, if_pos rfl]; show _ = Value.ref (h.2 (A + 0) 4); rw [hrj]; rfl
  by_cases e6 : j = 6
  · subst e6; rw [if_neg e2, if_neg e4, if_pos rfl]; show _ = Value.ref (h.2 (A + 0) 6); rw [hrj]; rfl
  by_cases e8 : j = 8
  · subst e8; rw [if_neg e2, if_neg e4, if_neg e6, if_pos rfl]; show _ = Value.ref (h.2 (A + 0) 8); rw [hrj]; rfl
  rw [if_neg e2, if_neg e4, if_neg e6, if_neg e8, if_pos (st_t0 j hj9 e2 e4 e6 e8), if_neg (fun q => absurd q.1 (by decide))]
  unfold zpre
  simp
  rfl
theorem st_pre {w : zW} {h : zH} {A : Nat} (hL : zLSt w h A) {V : Nat → Nat → Value} (hV : V = zset (znew (zset (znew (zset (znew (zset (znew (fun _ => zdv 4) (A + 1) (zdv 9)) A 2 (.ref (A + 1))) (A + 1 + 1) (zdv 11)) A 4 (.ref (A + 1 + 1))) (A + 1 + 1 + 1) (zdv 12)) A 6 (.ref (A + 1 + 1 + 1))) (A + 1 + 1 + 1 + 1) (zdv 13)) A 8 (.ref (A + 1 + 1 + 1 + 1))) : ∀ b, A ≤ b → b < A + 5 → ∀ j, j < zn (zwK w b - 1) → V b j = zfl w h (A + 2) (A + 5) 2 0 (zst4 A) b j := by
  intro b g1 g2 j hj
  subst hV
  obtain ⟨o, rfl⟩ : ∃ o, b = A + o := ⟨b - A, by omega⟩
  have ho : o < 5 := by omega
  rw [(hL o (by omega)).1] at hj
  unfold zfl
  match o, ho with
  | 0, _ =>
    have hj9 : j < 9 := hj
    rw [if_neg (by omega), if_neg (by omega)]
    unfold zst4
    rw [if_pos (by omega)]
    simp only [zset, znew, Nat.add_zero, true_and, show ¬ (A = A + 1) by omega, show ¬ (A = A + 1 + 1) by omega, show ¬ (A = A + 1 + 1 + 1) by omega, show ¬ (A = A + 1 + 1 + 1 + 1) by omega, if_false]
    by_cases e2 : j = 2
    · subst e2; simp
    by_cases e4 : j = 4
    · subst e4; simp
    by_cases e6 : j = 6
    · subst e6; simp
    by_cases e8 : j = 8
    · subst e8; simp
    simp only [e2, e4, e6, e8, if_false]
    exact st_z4 hj9 e2 e4 e6 e8
  | 1, _ =>
    rw [if_neg (by omega), if_neg (by omega)]
    unfold zst4
    rw [if_neg (by omega), if_pos rfl]
    simp only [zset, znew, show ¬ (A + 1 = A) by omega, false_and, if_false, show ¬ (A + 1 = A + 1 + 1) by omega, show ¬ (A + 1 = A + 1 + 1 + 1) by omega, show ¬ (A + 1 = A + 1 + 1 + 1 + 1) by omega, if_true]
    exact zdv_i rfl j
  | 2, _ =>
    rw [if_pos rfl, if_neg (by omega)]
    simp only [zset, znew, show ¬ (A + 2 = A) by omega, false_and, if_false, show (A + 2 = A + 1 + 1) by omega, show ¬ (A + 1 + 1 = A) by omega, show ¬ (A + 1 + 1 = A + 1 + 1 + 1) by omega, show ¬ (A + 1 + 1 = A + 1 + 1 + 1 + 1) by omega, if_true]
    exact zdv_arr (by decide) (by decide)
  | 3, _ =>
    rw [if_neg (by omega), if_neg (by omega)]
    unfold zst4
    rw [if_neg (by omega), if_neg (by omega)]
    simp only [zset, znew, show (A + 3 = A + 1 + 1 + 1) by omega, show ¬ (A + 1 + 1 + 1 = A) by omega, false_and, if_false, show ¬ (A + 1 + 1 + 1 = A + 1 + 1 + 1 + 1) by omega, if_true]
    exact zdv_arr (by decide) (by decide)
  | 4, _ =>
    rw [if_neg (by omega), if_neg (by omega)]
    unfold zst4
    rw [if_neg (by omega), if_neg (by omega)]
    simp only [zset, znew, show (A + 4 = A + 1 + 1 + 1 + 1) by omega, show ¬ (A + 1 + 1 + 1 + 1 = A) by omega, false_and, if_false, if_true]
    exact zdv_arr (by decide) (by decide)
theorem st_mid {w : zW} {h : zH} {A n : Nat} {arr n0 : Nat} {V : Nat → Nat → Value} (hn : n ≤ n0) (hz : ∀ j, V arr j = .null) : ∀ b, A ≤ b → b < n → ∀ j, j < zn (zwK w b - 1) → V b j = zfl w h arr n0 1 0 V b j := by
  intro b g1 g2 j hj
  unfold zfl
  by_cases hb : b = arr
  · subst hb
    rw [if_pos rfl, if_neg (by omega)]
    exact hz j
  · rw [if_neg hb, if_neg (by omega)]

theorem i_X4 (w : zW) (l : Launch) (h : zH) (A : Nat) (hL : zLSt w h A) (hG : zRg h) : zCi w l yX4_init cX4_init 2 2 92 40 677 4 A 41 h := by
  have k0 : zwK w A = 5 := (hL 0 (by decide)).1
  refine zCi.of (own := RX4) (by decide) rfl rfl (by decide) k0 ?_
  intro p e s m args below meth c C hAn Z1 Z2 Z3 hB hsz
  refine u_aload_n C dX4_init_0 List.mem_cons_self ?_
  refine u_objInit C (zmem 191 (by decide +kernel)) dX4_init_1 ⟨by decide, by decide⟩ ?_
  refine u_aload_n C dX4_init_4 List.mem_cons_self ?_
  refine u_bipush C dX4_init_5 (by decide) ?_
  refine u_newI (k := 9) (N := 7) C hAn ⟨by decide, by decide⟩ rfl rfl (zmem 235 (by decide +kernel)) (by decide) ⟨by decide, by decide⟩ (fun j => (zdv_i rfl j).symm) ((hL 1 (by decide)).1) ⟨by decide, by decide⟩ dX4_init_7 ?_
  refine u_put C Z3 dX4_init_9 pa4_9 (by decide) k0 ⟨Nat.le_refl _, by omega⟩ rfl rfl ?_
  refine u_aload_n C dX4_init_12 List.mem_cons_self ?_
  refine u_bipush C dX4_init_13 (by decide) ?_
  refine u_newR (k := 11) (N := 6) C hAn ⟨by decide, by decide⟩ rfl rfl (by decide) (zmem 192 (by decide +kernel)) hAn.2.1 (by decide) ⟨by decide, by decide⟩ ((hL 2 (by decide)).1) ⟨by decide, by decide⟩ dX4_init_15 ?_
  refine u_put C Z3 dX4_init_18 pa4_17 (by decide) k0 ⟨Nat.le_refl _, by omega⟩ rfl rfl ?_
  refine u_aload_n C dX4_init_21 List.mem_cons_self ?_
  refine u_bipush C dX4_init_22 (by decide) ?_
  refine u_newR (k := 12) (N := 8) C hAn ⟨by decide, by decide⟩ rfl rfl (by decide) (zmem 194 (by decide +kernel)) hAn.2.2.1 (by decide) ⟨by decide, by decide⟩ ((hL 3 (by decide)).1) ⟨by decide, by decide⟩ dX4_init_24 ?_
  refine u_put C Z3 dX4_init_27 pa4_23 (by decide) k0 ⟨Nat.le_refl _, by omega⟩ rfl rfl ?_
  refine u_aload_n C dX4_init_30 List.mem_cons_self ?_
  refine u_bipush C dX4_init_31 (by decide) ?_
  refine u_newR (k := 13) (N := 16) C hAn ⟨by decide, by decide⟩ rfl rfl (by decide) (zmem 196 (by decide +kernel)) hAn.2.2.2.1 (by decide) ⟨by decide, by decide⟩ ((hL 4 (by decide)).1) ⟨by decide, by decide⟩ dX4_init_33 ?_
  refine u_put C Z3 dX4_init_36 pa4_29 (by decide) k0 ⟨Nat.le_refl _, by omega⟩ rfl rfl ?_
  refine u_iconst C dX4_init_39 ?_
  refine u_istore0 C dX4_init_40 (by decide) ?_
  refine u_n (n' := A + 5) (by omega) ?_
  refine u_to (st_pre (h := h) hL rfl) ?_
  refine u_fill (N := 6) (k := 11) (ci := 5) (arr := A + 2) (n0 := A + 5) (bs := 2) (mc := 1) (ms := 64) (NN := 8) (pe := 66) (Cn := RX5) (T := TX5) (ty0 := tyX5) (V0 := zst4 A) C (by decide) dX4_init_41 dX4_init_42 (by decide) dX4_init_44 (by decide) dX4_init_47 dX4_init_48 dX4_init_51 dX4_init_52 dX4_init_55 dX4_init_59 dX4_init_60 dX4_init_63 (by decide) (by decide) fl4_17 k0 (by unfold zst4; rw [if_pos rfl]; rfl) ⟨by omega, by omega⟩ ⟨by decide, by decide⟩ rfl rfl ((hL 2 (by decide)).1) (by decide) rfl inT5 rfl tyX5_ok (by decide) (zmem 192 (by decide +kernel)) (zmem 198 (by decide +kernel)) (zmem 23 (by decide +kernel)) (fun i hi => by rw [Nat.add_assoc, (hL _ (by omega)).1]; exact (st_5 i hi).1) (by decide) (fun i hi cells slots V q1 q2 q3 kk => ?_) 6 0 _ _ rfl (by decide) (by decide) ?_
  · exact u_callN C hAn hB rfl dX4_init_56 (by decide : (RX4, 33, yX5_init, RX7) ∈ zw_NM) (zmem 200 (by decide +kernel)) (zmem 23 (by decide +kernel)) (zmem 201 (by decide +kernel)) ⟨by decide, by decide⟩ (by decide +kernel) (i_X5 w l h _ (by rw [Nat.add_assoc, (hL _ (by omega)).1]; exact (st_5 i hi).1) (by rw [show A + 5 + 2 * i + 1 = A + (6 + 2 * i) by omega, (hL _ (by omega)).1]; exact (st_5 i hi).2.1) (by rw [Nat.add_assoc, ((hL _ (by omega)).2 7).1, (st_5 i hi).2.2]; omega) (fun j => by rw [Nat.add_assoc, ((hL _ (by omega)).2 j).2]; exact st_I (by omega) j) (fun j => by rw [show A + 5 + 2 * i + 1 = A + (6 + 2 * i) by omega, ((hL _ (by omega)).2 j).2]; exact st_I (by omega) j)) rfl (by omega) (by rw [Nat.add_assoc, (hL _ (by omega)).1]; exact (st_5 i hi).1) q3 ⟨by decide, by decide⟩ ⟨q1, q2⟩ (show (3 : Nat) ≤ 8 by decide) kk
  refine u_iconst C dX4_init_66 ?_
  refine u_istore1 C dX4_init_67 (by decide) ?_
  refine u_n (n' := A + 17) (by omega) ?_
  refine u_to (st_mid (h := h) (arr := A + 3) (n0 := A + 17) (Nat.le_refl _) (fun j => by unfold zfl; rw [if_neg (by omega), if_neg (by omega)]; unfold zst4; rw [if_neg (by omega), if_neg (by omega)])) ?_
  refine u_fill (N := 8) (k := 12) (ci := 3) (arr := A + 3) (n0 := A + 17) (bs := 1) (mc := 0) (ms := 0) (NN := 4) (pe := 93) (Cn := RX3) (T := TX3) (ty0 := tyX3) (V0 := zfl w h (A + 2) (A + 5) 2 6 (zst4 A)) C (by decide) dX4_init_68 dX4_init_69 (by decide) dX4_init_71 (by decide) dX4_init_74 dX4_init_75 dX4_init_78 dX4_init_79 dX4_init_82 dX4_init_86 dX4_init_87 dX4_init_90 (by decide) (by decide) fl4_23 k0 (by unfold zfl; rw [if_neg (by omega), if_neg (by omega)]; unfold zst4; rw [if_pos rfl]; rfl) ⟨by omega, by omega⟩ ⟨by decide, by decide⟩ rfl rfl ((hL 3 (by decide)).1) (by decide) rfl inT3 rfl tyX3_ok (by decide) (zmem 194 (by decide +kernel)) (zmem 236 (by decide +kernel)) (zmem 24 (by decide +kernel)) (fun i hi => by rw [Nat.one_mul, Nat.add_assoc, (hL _ (by omega)).1]; exact st_17 i hi) (by decide) (fun i hi cells slots V q1 q2 q3 kk => ?_) 8 0 _ _ rfl (by decide) (by decide) ?_
  · exact u_callN C hAn hB rfl dX4_init_83 (by decide : (RX4, 34, yX3_init, RX7) ∈ zw_NM) (zmem 238 (by decide +kernel)) (zmem 24 (by decide +kernel)) (zmem 239 (by decide +kernel)) ⟨by decide, by decide⟩ (by decide +kernel) (i_X3 w l h _ (by rw [Nat.one_mul, Nat.add_assoc, (hL _ (by omega)).1]; exact st_17 i hi) (fun j => by rw [Nat.one_mul, Nat.add_assoc, ((hL _ (by omega)).2 j).2]; exact st_I (by omega) j)) rfl (by omega) (by rw [Nat.one_mul, Nat.add_assoc, (hL _ (by omega)).1]; exact st_17 i hi) q3 ⟨by decide, by decide⟩ ⟨q1, q2⟩ (show (3 : Nat) ≤ 8 by decide) kk
  refine u_iconst C dX4_init_93 ?_
  refine u_istore1 C dX4_init_94 (by decide) ?_
  refine u_n (n' := A + 25) (by omega) ?_
  refine u_to (st_mid (h := h) (arr := A + 4) (n0 := A + 25) (Nat.le_refl _) (fun j => by unfold zfl; rw [if_neg (by omega), if_neg (by omega), if_neg (by omega), if_neg (by omega)]; unfold zst4; rw [if_neg (by omega), if_neg (by omega)])) ?_
  refine u_fill (N := 16) (k := 13) (ci := 0) (arr := A + 4) (n0 := A + 25) (bs := 1) (mc := 0) (ms := 0) (NN := 11) (pe := 120) (Cn := RX0) (T := TX0) (ty0 := tyX0) (V0 := zfl w h (A + 3) (A + 17) 1 8 (zfl w h (A + 2) (A + 5) 2 6 (zst4 A))) C (by decide) dX4_init_95 dX4_init_96 (by decide) dX4_init_98 (by decide) dX4_init_101 dX4_init_102 dX4_init_105 dX4_init_106 dX4_init_109 dX4_init_113 dX4_init_114 dX4_init_117 (by decide) (by decide) fl4_29 k0 (by unfold zfl; rw [if_neg (by omega), if_neg (by omega), if_neg (by omega), if_neg (by omega)]; unfold zst4; rw [if_pos rfl]; rfl) ⟨by omega, by omega⟩ ⟨by decide, by decide⟩ rfl rfl ((hL 4 (by decide)).1) (by decide) rfl inT0 rfl tyX0_ok (by decide) (zmem 196 (by decide +kernel)) (zmem 258 (by decide +kernel)) (zmem 25 (by decide +kernel)) (fun i hi => by rw [Nat.one_mul, Nat.add_assoc, (hL _ (by omega)).1]; exact st_25 i hi) (by decide) (fun i hi cells slots V q1 q2 q3 kk => ?_) 16 0 _ _ rfl (by decide) (by decide) ?_
  · exact u_callN C hAn hB rfl dX4_init_110 (by decide : (RX4, 35, yX0_init, RX7) ∈ zw_NM) (zmem 260 (by decide +kernel)) (zmem 25 (by decide +kernel)) (zmem 261 (by decide +kernel)) ⟨by decide, by decide⟩ (by decide +kernel) (i_X0 w l h _ (by rw [Nat.one_mul, Nat.add_assoc, (hL _ (by omega)).1]; exact st_25 i hi) (fun j => by rw [Nat.one_mul, Nat.add_assoc, ((hL _ (by omega)).2 j).2]; exact st_I (by omega) j)) rfl (by omega) (by rw [Nat.one_mul, Nat.add_assoc, (hL _ (by omega)).1]; exact st_25 i hi) q3 ⟨by decide, by decide⟩ ⟨q1, q2⟩ (show (3 : Nat) ≤ 8 by decide) kk
  refine u_n (n' := A + 41) (by omega) ?_
  refine u_to (st_end hL) ?_
  have C2 : zC (zsub w A 41) p s m args c 2 cX4_init RX4 := ⟨C.1, C.2.1, C.2.2.1, C.2.2.2.1, C.2.2.2.2.1, zKn.sub C.2.2.2.2.2 hB (by omega)⟩
  have kA : zwK (zsub w A 41) A = 5 := (zsub_in (Nat.le_refl _) (by omega)).trans k0
  refine u_toV (locz := [some (.inr (4, A))]) hAn.2.2.2.2.2 (st_Ty hL rfl) (st_Rg hG) (fun q hq => ?_) (fun v hv => ?_) ?_
  · simp only [zlo, List.mem_cons, List.not_mem_nil, or_false] at hq
    rw [hq]
    exact List.mem_cons_self
  · simp only [List.mem_cons, List.not_mem_nil, or_false, Option.some.injEq] at hv
    rw [hv]
    exact kA
  refine v_aload_n C2 dX4_init_120 rfl ?_
  refine v_callV (k := 0) C2 dX4_init_121 mv4_36 (cq_X4_clear (zsub w A 41) l (zpre h A) A () _ rfl) rfl ⟨by decide, by decide⟩ ⟨by decide, by decide⟩ ⟨rfl, Nat.le_of_ble_eq_true rfl⟩ (fun r1 h9 q => ?_)
  rw [q.1, q.2]
  exact u_retV C2 Z1 Z2 (by decide) (by decide) (by decide) (by rw [hsz]) dX4_init_124 (fun b g1 g2 => by
    obtain ⟨o, rfl⟩ : ∃ o, b = A + o := ⟨b - A, by omega⟩
    rw [(hL o (by omega)).1]
    have := skK_b o (by omega)
    omega) (zcl_eq hL)

/-- a History with its kept States -/
def zLH (w : zW) (h : zH) (a : Nat) : Prop := zwK w a = 2 ∧ zwK w (a + 1) = 16 ∧ h.2 a 1 = a + 1 ∧ (∀ j, h.1 a j = 0) ∧ (∀ j, h.2 (a + 1) j = a + 2 + 41 * j) ∧ ∀ i, i < 10 → zLSt w h (a + 2 + 41 * i)
theorem i_X1 (w : zW) (l : Launch) (h : zH) (a : Nat) (hL : zLH w h a) (hG : zRg h) : zCi w l yX1_init cX1_init 2 3 113 411 6870 1 a 412 h := by
  obtain ⟨k0, k1, r1, g0, g1, hS⟩ := hL
  refine zCi.of (own := RX1) (by decide) rfl rfl (by decide) k0 ?_
  intro p e s m args below meth c C hAn Z1 Z2 Z3 hB hsz
  refine u_aload_n C dX1_init_0 List.mem_cons_self ?_
  refine u_objInit C (zmem 371 (by decide +kernel)) dX1_init_1 ⟨by decide, by decide⟩ ?_
  refine u_aload_n C dX1_init_4 List.mem_cons_self ?_
  refine u_bipush C dX1_init_5 (by decide) ?_
  refine u_newR (k := 15) (N := 10) C hAn ⟨by decide, by decide⟩ rfl rfl (by decide) (zmem 372 (by decide +kernel)) hAn.2.2.2.2.1 (by decide) ⟨by decide, by decide⟩ k1 ⟨by decide, by decide⟩ dX1_init_7 ?_
  refine u_put C Z3 dX1_init_10 pa1_11 (by decide) k0 ⟨Nat.le_refl _, by omega⟩ rfl rfl ?_
  refine u_iconst C dX1_init_13 ?_
  refine u_istore0 C dX1_init_14 (by decide) ?_
  refine u_n (n' := a + 2) (by omega) ?_
  refine u_to (V' := zfl w h (a + 1) (a + 2) 41 0 (zset (znew (fun _ => zdv 1) (a + 1) (zdv 15)) a 1 (.ref (a + 1)))) (fun b q1 q2 j hj => ?_) ?_
  · unfold zfl
    by_cases hb : b = a + 1
    · subst hb
      rw [if_pos rfl, if_neg (by omega)]
      unfold zset
      rw [if_neg (by omega)]
      unfold znew
      rw [if_pos rfl]
      exact zdv_arr (by decide) (by decide)
    · rw [if_neg hb, if_neg (by omega)]
  refine u_fill (N := 10) (k := 15) (ci := 4) (arr := a + 1) (n0 := a + 2) (bs := 41) (mc := 40) (ms := 677) (NN := 9) (pe := 40) (Cn := RX4) (T := TX4) (ty0 := tyX4) (V0 := zset (znew (fun _ => zdv 1) (a + 1) (zdv 15)) a 1 (.ref (a + 1))) C (by decide) dX1_init_15 dX1_init_16 (by decide) dX1_init_18 (by decide) dX1_init_21 dX1_init_22 dX1_init_25 dX1_init_26 dX1_init_29 dX1_init_33 dX1_init_34 dX1_init_37 (by decide) (by decide) fl1_11 k0 (by unfold zset; rw [if_pos ⟨rfl, rfl⟩]) ⟨by omega, by omega⟩ ⟨by decide, by decide⟩ rfl rfl k1 (by decide) rfl inT4 rfl tyX4_ok (by decide) (zmem 372 (by decide +kernel)) (zmem 187 (by decide +kernel)) (zmem 22 (by decide +kernel)) (fun i hi => (hS i hi 0 (by decide)).1) (by decide) (fun i hi cells slots V q1 q2 q3 kk => ?_) 10 0 _ _ rfl (by decide) (by decide) ?_
  · exact u_callI C hAn hB rfl dX1_init_30 (zmem 374 (by decide +kernel)) (zmem 189 (by decide +kernel)) (zmem 22 (by decide +kernel)) (zmem 190 (by decide +kernel)) ⟨by decide, by decide⟩ (by decide +kernel) (i_X4 w l h _ (hS i hi) hG) rfl (by omega) (hS i hi 0 (by decide)).1 q3 ⟨by decide, by decide⟩ ⟨q1, q2⟩ (show (3 : Nat) ≤ 8 by decide) kk
  refine u_ret C Z1 Z2 (by decide) (by decide) (by omega) dX1_init_40 fun b q1 q2 j hj => ?_
  unfold zfl
  by_cases hb1 : b = a + 1
  · subst hb1
    rw [if_pos rfl, zvl_at (k := 15) k1]
    rw [k1] at hj
    rw [if_pos (show j < 10 from hj)]
    show Value.ref (a + 2 + 41 * j) = Value.ref (h.2 (a + 1) j)
    rw [g1]
  rw [if_neg hb1]
  by_cases hb2 : a + 2 ≤ b
  · rw [if_pos hb2]
  have hb : b = a := by omega
  subst hb
  rw [if_neg hb2, zvl_at (k := 1) k0]
  rw [k0] at hj
  have hj2 : j < 2 := hj
  unfold zset
  by_cases hjs : j = 1
  · subst hjs
    rw [if_pos ⟨rfl, rfl⟩]
    show _ = Value.ref (h.2 b 1)
    rw [r1]
  · rw [if_neg (fun q => hjs q.2)]
    unfold znew
    rw [if_neg (by omega)]
    refine zdv_vk ?_ (g0 j)
    have hj0 : j = 0 := by omega
    subst hj0
    rfl

/-- a Loader with its Tokens and its State -/
def zLL (w : zW) (h : zH) (a : Nat) : Prop := zwK w a = 3 ∧ zwK w (a + 1) = 7 ∧ zwK w (a + 2) = 15 ∧ h.2 a 0 = a + 1 ∧ h.2 a 1 = a + 3 ∧ h.2 (a + 1) 1 = a + 2 ∧ (∀ j, h.1 a j = if j = 2 then -1 else 0) ∧ (∀ j, h.1 (a + 1) j = 0) ∧ (∀ j, h.1 (a + 2) j = 0) ∧ zLSt w h (a + 3)
theorem i_X2 (w : zW) (l : Launch) (h : zH) (a : Nat) (hL : zLL w h a) (hG : zRg h) : zCi w l yX2_init cX2_init 1 3 113 43 1693 2 a 44 h := by
  obtain ⟨k0, k1, k2, r0, r1, r2, g0, g1, g2, hS⟩ := hL
  refine zCi.of (own := RX2) (by decide) rfl rfl (by decide) k0 ?_
  intro p e s m args below meth c C hAn Z1 Z2 Z3 hB hsz
  refine u_aload_n C dX2_init_0 List.mem_cons_self ?_
  refine u_objInit C (zmem 388 (by decide +kernel)) dX2_init_1 ⟨by decide, by decide⟩ ?_
  refine u_aload_n C dX2_init_4 List.mem_cons_self ?_
  refine u_n (n' := a + 1) (by omega) ?_
  refine u_new C (ci := 6) (N := 7) (T := TX6) (ty0 := tyX6) (Cn := RX6) rfl inT6 rfl tyX6_ok (by decide) (by decide) (zmem 389 (by decide +kernel)) (zmem 390 (by decide +kernel)) (zmem 29 (by decide +kernel)) (k1) ⟨by decide, by decide⟩ dX2_init_5 ?_
  refine u_dup C dX2_init_8 ?_
  refine u_callN C hAn hB rfl dX2_init_9 (by decide : (RX2, 11, yX6_init, RX7) ∈ zw_NM) (zmem 392 (by decide +kernel)) (zmem 29 (by decide +kernel)) (zmem 393 (by decide +kernel)) ⟨by decide, by decide⟩ (by decide +kernel) (i_X6 w l h (a + 1) k1 k2 r2 g1 g2) rfl (by omega) (k1) (fun j => by unfold znew; rw [if_pos rfl]) ⟨by decide, by decide⟩ ⟨by decide, by decide⟩ (show (2 : Nat) ≤ 8 by decide) ?_
  refine u_put C Z3 dX2_init_12 pa2_12 (by decide) k0 ⟨Nat.le_refl _, by omega⟩ rfl rfl ?_
  refine u_aload_n C dX2_init_15 List.mem_cons_self ?_
  refine u_n (n' := a + 3) (by omega) ?_
  refine u_new C (ci := 4) (N := 9) (T := TX4) (ty0 := tyX4) (Cn := RX4) rfl inT4 rfl tyX4_ok (by decide) (by decide) (zmem 422 (by decide +kernel)) (zmem 187 (by decide +kernel)) (zmem 22 (by decide +kernel)) ((hS 0 (by decide)).1) ⟨by decide, by decide⟩ dX2_init_16 ?_
  refine u_dup C dX2_init_19 ?_
  refine u_callI C hAn hB rfl dX2_init_20 (zmem 423 (by decide +kernel)) (zmem 189 (by decide +kernel)) (zmem 22 (by decide +kernel)) (zmem 190 (by decide +kernel)) ⟨by decide, by decide⟩ (by decide +kernel) (i_X4 w l h (a + 3) hS hG) rfl (by omega) ((hS 0 (by decide)).1) (fun j => by unfold znew; rw [if_pos rfl]) ⟨by decide, by decide⟩ ⟨by decide, by decide⟩ (show (2 : Nat) ≤ 8 by decide) ?_
  refine u_put C Z3 dX2_init_23 pa2_21 (by decide) k0 ⟨Nat.le_refl _, by omega⟩ rfl rfl ?_
  refine u_aload_n C dX2_init_26 List.mem_cons_self ?_
  refine u_iconst C dX2_init_27 ?_
  refine u_put C Z3 dX2_init_28 pa2_25 (by decide) k0 ⟨Nat.le_refl _, by omega⟩ rfl rfl ?_
  refine u_ret C Z1 Z2 (by decide) (by decide) (by omega) dX2_init_31 fun b q1 q2 j hj => ?_
  by_cases hb : b = a
  · subst hb
    rw [zvl_at (k := 2) k0]
    rw [k0] at hj
    have hj6 : j < 6 := hj
    simp only [zset, zfin, znew, true_and, show ¬ (b + 1 ≤ b) by omega, show ¬ (b + 3 ≤ b) by omega, show ¬ (b = b + 1) by omega, show ¬ (b = b + 3) by omega, if_false]
    match j, hj6 with
    | 0, _ => exact congrArg Value.ref r0.symm
    | 1, _ => exact congrArg Value.ref r1.symm
    | 2, _ =>
      show Value.int (zi (-1)) = Value.int (zi (h.1 b 2))
      rw [g0]
      rfl
    | 3, _ => exact zdv_vk (k := 2) (j := 3) rfl (g0 3)
    | 4, _ => exact zdv_vk (k := 2) (j := 4) rfl (g0 4)
    | 5, _ => exact zdv_vk (k := 2) (j := 5) rfl (g0 5)
  · rw [zset_ne hb, zset_ne hb]
    by_cases hb3 : a + 3 ≤ b
    · rw [zfin_ge hb3]
    rw [zfin_lt hb3, znew_ne (by omega), zset_ne hb, zfin_ge (by omega)]

/-- the exchange with all that it keeps -/
def zLB (w : zW) (h : zH) (a : Nat) : Prop := zwK w a = 8 ∧ h.2 a 0 = a + 1 ∧ h.2 a 1 = a + 42 ∧ h.2 a 2 = a + 83 ∧ h.2 a 3 = a + 85 ∧ h.2 a 4 = a + 497 ∧ zLSt w h (a + 1) ∧ zLSt w h (a + 42) ∧ (zwK w (a + 83) = 6 ∧ zwK w (a + 83 + 1) = 11 ∧ h.2 (a + 83) 7 = a + 83 + 1 ∧ (∀ j, h.1 (a + 83) j = 0) ∧ ∀ j, h.1 (a + 83 + 1) j = 0) ∧ zLH w h (a + 85) ∧ zLL w h (a + 497)
theorem i_X7 (w : zW) (l : Launch) (h : zH) (a : Nat) (hL : zLB w h a) (hG : zRg h) : zCi w l yX7_init cX7_init 1 4 134 540 10015 7 a 541 h := by
  obtain ⟨k0, r0, r1, r2, r3, r4, h1, h2, ⟨h30, h31, h32, h33, h34⟩, h4, h5⟩ := hL
  refine zCi.of (own := RX7) (by decide) rfl rfl (by decide) k0 ?_
  intro p e s m args below meth c C hAn Z1 Z2 Z3 hB hsz
  refine u_aload_n C dX7_init_0 List.mem_cons_self ?_
  refine u_objInit C (zmem 185 (by decide +kernel)) dX7_init_1 ⟨by decide, by decide⟩ ?_
  refine u_aload_n C dX7_init_4 List.mem_cons_self ?_
  refine u_n (n' := a + 1) (by omega) ?_
  refine u_new C (ci := 4) (N := 9) (T := TX4) (ty0 := tyX4) (Cn := RX4) rfl inT4 rfl tyX4_ok (by decide) (by decide) (zmem 186 (by decide +kernel)) (zmem 187 (by decide +kernel)) (zmem 22 (by decide +kernel)) ((h1 0 (by decide)).1) ⟨by decide, by decide⟩ dX7_init_5 ?_
  refine u_dup C dX7_init_8 ?_
  refine u_callI C hAn hB rfl dX7_init_9 (zmem 188 (by decide +kernel)) (zmem 189 (by decide +kernel)) (zmem 22 (by decide +kernel)) (zmem 190 (by decide +kernel)) ⟨by decide, by decide⟩ (by decide +kernel) (i_X4 w l h (a + 1) h1 hG) rfl (by omega) ((h1 0 (by decide)).1) (fun j => by unfold znew; rw [if_pos rfl]) ⟨by decide, by decide⟩ ⟨by decide, by decide⟩ (show (2 : Nat) ≤ 8 by decide) ?_
  refine u_put C Z3 dX7_init_12 pa7_10 (by decide) k0 ⟨Nat.le_refl _, by omega⟩ rfl rfl ?_
  refine u_aload_n C dX7_init_15 List.mem_cons_self ?_
  refine u_n (n' := a + 42) (by omega) ?_
  refine u_new C (ci := 4) (N := 9) (T := TX4) (ty0 := tyX4) (Cn := RX4) rfl inT4 rfl tyX4_ok (by decide) (by decide) (zmem 186 (by decide +kernel)) (zmem 187 (by decide +kernel)) (zmem 22 (by decide +kernel)) ((h2 0 (by decide)).1) ⟨by decide, by decide⟩ dX7_init_16 ?_
  refine u_dup C dX7_init_19 ?_
  refine u_callI C hAn hB rfl dX7_init_20 (zmem 188 (by decide +kernel)) (zmem 189 (by decide +kernel)) (zmem 22 (by decide +kernel)) (zmem 190 (by decide +kernel)) ⟨by decide, by decide⟩ (by decide +kernel) (i_X4 w l h (a + 42) h2 hG) rfl (by omega) ((h2 0 (by decide)).1) (fun j => by unfold znew; rw [if_pos rfl]) ⟨by decide, by decide⟩ ⟨by decide, by decide⟩ (show (2 : Nat) ≤ 8 by decide) ?_
  refine u_put C Z3 dX7_init_23 pa7_16 (by decide) k0 ⟨Nat.le_refl _, by omega⟩ rfl rfl ?_
  refine u_aload_n C dX7_init_26 List.mem_cons_self ?_
  refine u_n (n' := a + 83) (by omega) ?_
  refine u_new C (ci := 5) (N := 8) (T := TX5) (ty0 := tyX5) (Cn := RX5) rfl inT5 rfl tyX5_ok (by decide) (by decide) (zmem 364 (by decide +kernel)) (zmem 198 (by decide +kernel)) (zmem 23 (by decide +kernel)) (h30) ⟨by decide, by decide⟩ dX7_init_27 ?_
  refine u_dup C dX7_init_30 ?_
  refine u_callN C hAn hB rfl dX7_init_31 (by decide : (RX7, 21, yX5_init, RX7) ∈ zw_NM) (zmem 200 (by decide +kernel)) (zmem 23 (by decide +kernel)) (zmem 201 (by decide +kernel)) ⟨by decide, by decide⟩ (by decide +kernel) (i_X5 w l h (a + 83) h30 h31 h32 h33 h34) rfl (by omega) (h30) (fun j => by unfold znew; rw [if_pos rfl]) ⟨by decide, by decide⟩ ⟨by decide, by decide⟩ (show (2 : Nat) ≤ 8 by decide) ?_
  refine u_put C Z3 dX7_init_34 pa7_22 (by decide) k0 ⟨Nat.le_refl _, by omega⟩ rfl rfl ?_
  refine u_aload_n C dX7_init_37 List.mem_cons_self ?_
  refine u_n (n' := a + 85) (by omega) ?_
  refine u_new C (ci := 1) (N := 2) (T := TX1) (ty0 := tyX1) (Cn := RX1) rfl inT1 rfl tyX1_ok (by decide) (by decide) (zmem 366 (by decide +kernel)) (zmem 367 (by decide +kernel)) (zmem 27 (by decide +kernel)) (h4.1) ⟨by decide, by decide⟩ dX7_init_38 ?_
  refine u_dup C dX7_init_41 ?_
  refine u_callI C hAn hB rfl dX7_init_42 (zmem 368 (by decide +kernel)) (zmem 369 (by decide +kernel)) (zmem 27 (by decide +kernel)) (zmem 370 (by decide +kernel)) ⟨by decide, by decide⟩ (by decide +kernel) (i_X1 w l h (a + 85) h4 hG) rfl (by omega) (h4.1) (fun j => by unfold znew; rw [if_pos rfl]) ⟨by decide, by decide⟩ ⟨by decide, by decide⟩ (show (2 : Nat) ≤ 8 by decide) ?_
  refine u_put C Z3 dX7_init_45 pa7_29 (by decide) k0 ⟨Nat.le_refl _, by omega⟩ rfl rfl ?_
  refine u_aload_n C dX7_init_48 List.mem_cons_self ?_
  refine u_n (n' := a + 497) (by omega) ?_
  refine u_new C (ci := 2) (N := 6) (T := TX2) (ty0 := tyX2) (Cn := RX2) rfl inT2 rfl tyX2_ok (by decide) (by decide) (zmem 383 (by decide +kernel)) (zmem 384 (by decide +kernel)) (zmem 28 (by decide +kernel)) (h5.1) ⟨by decide, by decide⟩ dX7_init_49 ?_
  refine u_dup C dX7_init_52 ?_
  refine u_callN C hAn hB rfl dX7_init_53 (by decide : (RX7, 35, yX2_init, RX7) ∈ zw_NM) (zmem 386 (by decide +kernel)) (zmem 28 (by decide +kernel)) (zmem 387 (by decide +kernel)) ⟨by decide, by decide⟩ (by decide +kernel) (i_X2 w l h (a + 497) h5 hG) rfl (by omega) (h5.1) (fun j => by unfold znew; rw [if_pos rfl]) ⟨by decide, by decide⟩ ⟨by decide, by decide⟩ (show (2 : Nat) ≤ 8 by decide) ?_
  refine u_put C Z3 dX7_init_56 pa7_36 (by decide) k0 ⟨Nat.le_refl _, by omega⟩ rfl rfl ?_
  refine u_ret C Z1 Z2 (by decide) (by decide) (by omega) dX7_init_59 fun b q1 q2 j hj => ?_
  by_cases hb : b = a
  · subst hb
    rw [zvl_at (k := 7) k0]
    rw [k0] at hj
    have hj5 : j < 5 := hj
    simp only [zset, zfin, znew, true_and, show ¬ (b + 1 ≤ b) by omega, show ¬ (b + 42 ≤ b) by omega, show ¬ (b + 83 ≤ b) by omega, show ¬ (b + 85 ≤ b) by omega, show ¬ (b + 497 ≤ b) by omega, show ¬ (b = b + 1) by omega, show ¬ (b = b + 42) by omega, show ¬ (b = b + 83) by omega, show ¬ (b = b + 85) by omega, show ¬ (b = b + 497) by omega, if_false]
    match j, hj5 with
    | 0, _ => exact congrArg Value.ref r0.symm
    | 1, _ => exact congrArg Value.ref r1.symm
    | 2, _ => exact congrArg Value.ref r2.symm
    | 3, _ => exact congrArg Value.ref r3.symm
    | 4, _ => exact congrArg Value.ref r4.symm
  · rw [zset_ne hb]
    by_cases hb5 : a + 497 ≤ b
    · rw [zfin_ge hb5]
    rw [zfin_lt hb5, znew_ne (by omega), zset_ne hb]
    by_cases hb4 : a + 85 ≤ b
    · rw [zfin_ge hb4]
    rw [zfin_lt hb4, znew_ne (by omega), zset_ne hb]
    by_cases hb3 : a + 83 ≤ b
    · rw [zfin_ge hb3]
    rw [zfin_lt hb3, znew_ne (by omega), zset_ne hb]
    by_cases hb2 : a + 42 ≤ b
    · rw [zfin_ge hb2]
    rw [zfin_lt hb2, znew_ne (by omega), zset_ne hb, zfin_ge (by omega)]

