/-! The constructors of the class and of the reference. -/
theorem pa5_11 : zPutA RX5 11 5 7 (.array .int) := ⟨RX5, TX5, 8, tyX5, rfl, inT5, by decide, rfl, zmem 131 (by decide +kernel), tyX5_ok, nmX5, by decide +kernel, Or.inr ⟨rfl, rfl⟩⟩
theorem pa6_9 : zPutA RX6 9 6 1 (.array .byte) := ⟨RX6, TX6, 7, tyX6, rfl, inT6, by decide, rfl, zmem 315 (by decide +kernel), tyX6_ok, nmX6, by decide +kernel, Or.inr ⟨rfl, rfl⟩⟩
theorem zdv_vk {k j b : Nat} {h : zH} (hz : zft k j = 0) (h0 : h.1 b j = 0) : zdv k j = zvk k h b j := by
  unfold zdv zvk
  rw [if_pos hz, if_pos hz, h0]
  split <;> rfl
theorem zdv_i {k : Nat} (hz : (if 9 ≤ k then (zar k).2.1 == 0 && decide ((zar k).2.2 ≠ .long) else false) = true) (j : Nat) : zdv k j = .int 0 := by
  by_cases h9 : 9 ≤ k
  · rw [if_pos h9] at hz
    simp only [Bool.and_eq_true, beq_iff_eq, decide_eq_true_eq] at hz
    have hf : zft k j = (zar k).2.1 := by unfold zft; rw [if_neg (by omega)]
    unfold zdv
    rw [if_pos (by rw [hf]; exact hz.1), if_neg (fun q => hz.2 q.2)]
  · rw [if_neg h9] at hz
    cases hz
theorem zft_num {k : Nat} (h9 : 9 ≤ k) (h0 : (zar k).2.1 = 0) (j : Nat) : zft k j = 0 := by unfold zft; rw [if_neg (by omega)]; exact h0
theorem zvl_at {w : zW} {h : zH} {b k j : Nat} (hk : zwK w b = k + 1) : zvl w h b j = zvk k h b j := by unfold zvl; rw [hk]; rfl

theorem i_X0 (w : zW) (l : Launch) (h : zH) (a : Nat) (hk : zwK w a = 1) (h0 : ∀ j, h.1 a j = 0) : zCi w l yX0_init cX0_init 1 1 12 0 0 0 a 1 h := by
  refine zCi.of (own := RX0) (by decide) rfl rfl (Nat.le_refl 1) hk ?_
  intro p e s m args below meth c C hAn Z1 Z2 Z3 hB hsz
  refine u_aload_n C dX0_init_0 List.mem_cons_self ?_
  refine u_objInit C (zmem 176 (by decide +kernel)) dX0_init_1 ⟨by decide, by decide⟩ ?_
  refine u_ret C Z1 Z2 (Nat.le_refl _) (Nat.le_refl _) rfl dX0_init_4 fun b h1 h2 j hj => ?_
  have hb : b = a := by omega
  subst hb
  rw [hk] at hj
  rw [zvl_at hk]
  refine zdv_vk ?_ (h0 j)
  have h9 : ∀ j, j < 11 → zft 0 j = 0 := by decide
  exact h9 j hj

theorem i_X3 (w : zW) (l : Launch) (h : zH) (a : Nat) (hk : zwK w a = 4) (h0 : ∀ j, h.1 a j = 0) : zCi w l yX3_init cX3_init 1 1 12 0 0 3 a 1 h := by
  refine zCi.of (own := RX3) (by decide) rfl rfl (Nat.le_refl 1) hk ?_
  intro p e s m args below meth c C hAn Z1 Z2 Z3 hB hsz
  refine u_aload_n C dX3_init_0 List.mem_cons_self ?_
  refine u_objInit C (zmem 154 (by decide +kernel)) dX3_init_1 ⟨by decide, by decide⟩ ?_
  refine u_ret C Z1 Z2 (Nat.le_refl _) (Nat.le_refl _) rfl dX3_init_4 fun b h1 h2 j hj => ?_
  have hb : b = a := by omega
  subst hb
  rw [hk] at hj
  rw [zvl_at hk]
  refine zdv_vk ?_ (h0 j)
  have h9 : ∀ j, j < 4 → zft 3 j = 0 := by decide
  exact h9 j hj

theorem i_X5 (w : zW) (l : Launch) (h : zH) (a : Nat) (hk : zwK w a = 6) (hk1 : zwK w (a + 1) = 11) (hr : h.2 a 7 = a + 1) (h0 : ∀ j, h.1 a j = 0) (h1 : ∀ j, h.1 (a + 1) j = 0) : zCi w l yX5_init cX5_init 1 1 13 1 64 5 a 2 h := by
  refine zCi.of (own := RX5) (by decide) rfl rfl (Nat.le_refl 1) hk ?_
  intro p e s m args below meth c C hAn Z1 Z2 Z3 hB hsz
  refine u_aload_n C dX5_init_0 List.mem_cons_self ?_
  refine u_objInit C (zmem 114 (by decide +kernel)) dX5_init_1 ⟨by decide, by decide⟩ ?_
  refine u_aload_n C dX5_init_4 List.mem_cons_self ?_
  refine u_bipush C dX5_init_5 (by decide) ?_
  refine u_newI (k := 10) (N := 64) C hAn ⟨by decide, by decide⟩ rfl rfl (zmem 149 (by decide +kernel)) (by decide) ⟨by decide, by decide⟩ (fun j => (zdv_i rfl j).symm) hk1 ⟨by decide, by decide⟩ dX5_init_7 ?_
  refine u_put C Z3 dX5_init_9 pa5_11 (by decide) hk ⟨Nat.le_refl _, by omega⟩ rfl rfl ?_
  refine u_ret C Z1 Z2 (by decide) (by decide) rfl dX5_init_12 fun b q1 q2 j hj => ?_
  by_cases hb : b = a
  · subst hb
    rw [zvl_at hk]
    rw [hk] at hj
    unfold zset
    by_cases hjs : j = 7
    · subst hjs
      rw [if_pos ⟨rfl, rfl⟩]
      show _ = Value.ref (h.2 b 7)
      rw [hr]
    · rw [if_neg (fun q => hjs q.2)]
      unfold znew
      rw [if_neg (by omega)]
      refine zdv_vk ?_ (h0 j)
      have h9 : ∀ j, j < 8 → j ≠ 7 → zft 5 j = 0 := by decide
      exact h9 j hj hjs
  · have hb2 : b = a + 1 := by omega
    subst hb2
    rw [zvl_at hk1]
    unfold zset
    rw [if_neg (fun q => hb q.1)]
    unfold znew
    rw [if_pos rfl]
    exact zdv_vk (zft_num (by decide) rfl j) (h1 j)

theorem i_X6 (w : zW) (l : Launch) (h : zH) (a : Nat) (hk : zwK w a = 7) (hk1 : zwK w (a + 1) = 15) (hr : h.2 a 1 = a + 1) (h0 : ∀ j, h.1 a j = 0) (h1 : ∀ j, h.1 (a + 1) j = 0) : zCi w l yX6_init cX6_init 1 1 13 1 1000 6 a 2 h := by
  refine zCi.of (own := RX6) (by decide) rfl rfl (Nat.le_refl 1) hk ?_
  intro p e s m args below meth c C hAn Z1 Z2 Z3 hB hsz
  refine u_aload_n C dX6_init_0 List.mem_cons_self ?_
  refine u_objInit C (zmem 311 (by decide +kernel)) dX6_init_1 ⟨by decide, by decide⟩ ?_
  refine u_aload_n C dX6_init_4 List.mem_cons_self ?_
  refine u_sipush C dX6_init_5 (by decide) ?_
  refine u_newI (k := 14) (N := 1000) C hAn ⟨by decide, by decide⟩ rfl rfl (zmem 339 (by decide +kernel)) (by decide) ⟨by decide, by decide⟩ (fun j => (zdv_i rfl j).symm) hk1 ⟨by decide, by decide⟩ dX6_init_8 ?_
  refine u_put C Z3 dX6_init_10 pa6_9 (by decide) hk ⟨Nat.le_refl _, by omega⟩ rfl rfl ?_
  refine u_ret C Z1 Z2 (by decide) (by decide) rfl dX6_init_13 fun b q1 q2 j hj => ?_
  by_cases hb : b = a
  · subst hb
    rw [zvl_at hk]
    rw [hk] at hj
    unfold zset
    by_cases hjs : j = 1
    · subst hjs
      rw [if_pos ⟨rfl, rfl⟩]
      show _ = Value.ref (h.2 b 1)
      rw [hr]
    · rw [if_neg (fun q => hjs q.2)]
      unfold znew
      rw [if_neg (by omega)]
      refine zdv_vk ?_ (h0 j)
      have h9 : ∀ j, j < 7 → j ≠ 1 → zft 6 j = 0 := by decide
      exact h9 j hj hjs
  · have hb2 : b = a + 1 := by omega
    subst hb2
    rw [zvl_at hk1]
    unfold zset
    rw [if_neg (fun q => hb q.1)]
    unfold znew
    rw [if_pos rfl]
    exact zdv_vk (zft_num (by decide) rfl j) (h1 j)

/-- a row of references is filled with new objects: behind i rounds -/
def zfl (w : zW) (h : zH) (arr n0 bs i : Nat) (V : Nat → Nat → Value) : Nat → Nat → Value := fun b j => if b = arr then (if j < i then .ref (n0 + bs * j) else .null) else if n0 ≤ b then zvl w h b j else V b j
section ZF
variable {w : zW} {p : Program} {l : Launch} {e : Env} {R : Room} {s : State} {m : MethodId} {args : Array Value} {below : List Frame} {meth : Method} {c : Code} {nL : Nat} {Q : State → Prop}
variable {cc : ByteArray} {own : String} {a : Nat} {h : zH}
theorem u_fill (C : zC w p s m args c nL cc own) (hnL : 1 < nL) {p0 N fidx fj cfi cidx iidx k ci arr n0 bs mc ms NN pe : Nat} {off back : Int} {Cn : String} {T : u_T} {ty0 : Nat → FieldType} {V0 : Nat → Nat → Value}
    (d0 : decode cc p0 = .ok (.iload_n 1, 1)) (d1 : decode cc (p0 + 1) = .ok (.bipush (N : Int), 2)) (d1v : (Int8.ofInt (N : Int)).toInt32 = zi (N : Int)) (d3 : decode cc (p0 + 3) = .ok (.if_icmp .ge off, 3)) (hpe : ((p0 + 3 : Nat) : Int) + off = (pe : Int)) (d6 : decode cc (p0 + 6) = .ok (.aload_n 0, 1)) (d7 : decode cc (p0 + 7) = .ok (.getfield fidx, 3)) (d10 : decode cc (p0 + 10) = .ok (.iload_n 1, 1)) (d11 : decode cc (p0 + 11) = .ok (.new cidx, 3)) (d14 : decode cc (p0 + 14) = .ok (.dup, 1)) (d18 : decode cc (p0 + 18) = .ok (.aastore, 1)) (d19 : decode cc (p0 + 19) = .ok (.iinc 1 1, 3)) (d22 : decode cc (p0 + 22) = .ok (.goto back, 3)) (hback : ((p0 + 22 : Nat) : Int) + back = (p0 : Int))
    (hN : N ≤ 16) (hfld : zFld own fidx cfi fj) (hka : zwK w a = cfi + 1) (hfa : V0 a fj = .ref arr) (harr : a < arr ∧ arr < n0) (hk : 9 ≤ k ∧ k < 22) (hty : (zar k).2.2 = .object Cn) (hnk : zn k = N) (hkarr : zwK w arr = k + 1) (hci : ci < 9) (hc : vwCl[ci]? = some (Cn, T, NN)) (hinT : ∀ x ∈ u_ws Cn T NN, x ∈ zw_T) (hNN : NN = zn ci) (htys : ∀ k, k < NN → parseFieldDescriptor (T k).2.2.1 = some (ty0 k)) (hdv : ∀ j, j < NN → defaultValue (ty0 j) = zdv ci j) (hcl : Cond.classLink own cidx Cn ∈ zw_T) (hinst : Cond.instantiable Cn NN ∈ zw_T) (hini : Cond.initialized Cn ∈ zw_T)
    (hkq : ∀ i, i < N → zwK w (n0 + bs * i) = ci + 1) (hbs : 1 ≤ bs)
    (hcall : ∀ i, i < N → ∀ (cells slots : Nat) (V : Nat → Nat → Value), cells + mc ≤ R.cells → slots + ms ≤ R.slots → (∀ j, V (n0 + bs * i) j = zdv ci j) → zU w p l e R s m args below meth c nL (cells + mc) (slots + ms) Q a (n0 + bs * i + bs) (p0 + 15 + 3) [(0, .ref a), (1, .int (zi (i : Int)))] [.ref (n0 + bs * i), .int (zi (i : Int)), .ref arr] (zfin w h (n0 + bs * i) V) → zU w p l e R s m args below meth c nL cells slots Q a (n0 + bs * i + 1) (p0 + 15) [(0, .ref a), (1, .int (zi (i : Int)))] [.ref (n0 + bs * i), .ref (n0 + bs * i), .int (zi (i : Int)), .ref arr] V) :
    ∀ (rem i cells slots : Nat), i + rem = N → cells + rem * (mc + 1) ≤ R.cells → slots + rem * (ms + NN) ≤ R.slots →
      zU w p l e R s m args below meth c nL (cells + rem * (mc + 1)) (slots + rem * (ms + NN)) Q a (n0 + bs * N) pe [(0, .ref a), (1, .int (zi (N : Int)))] [] (zfl w h arr n0 bs N V0) →
      zU w p l e R s m args below meth c nL cells slots Q a (n0 + bs * i) p0 [(0, .ref a), (1, .int (zi (i : Int)))] [] (zfl w h arr n0 bs i V0) := by
  intro rem
  induction rem with
  | zero =>
    intro i cells slots hi h1 h2 kk
    have hiN : i = N := by omega
    subst hiN
    refine u_iload_n C d0 (List.mem_cons_of_mem _ List.mem_cons_self) ?_
    refine u_bipush C d1 d1v ?_
    refine u_icmp_ge C ⟨by omega, by omega⟩ ⟨by omega, by omega⟩ d3 hpe (fun _ => ?_) (fun q => absurd q (Int.lt_irrefl _))
    simpa using kk
  | succ rem ih =>
    intro i cells slots hi h1 h2 kk
    have hiN : i < N := by omega
    have hm1 : (rem + 1) * (mc + 1) = rem * (mc + 1) + (mc + 1) := Nat.succ_mul _ _
    have hm2 : (rem + 1) * (ms + NN) = rem * (ms + NN) + (ms + NN) := Nat.succ_mul _ _
    refine u_iload_n C d0 (List.mem_cons_of_mem _ List.mem_cons_self) ?_
    refine u_bipush C d1 d1v ?_
    refine u_icmp_ge C ⟨by omega, by omega⟩ ⟨by omega, by omega⟩ d3 hpe (fun q => absurd q (by omega)) (fun _ => ?_)
    refine u_aload_n C d6 List.mem_cons_self ?_
    refine u_get (x := arr) C d7 hfld hka ⟨Nat.le_refl _, by omega⟩ (by
      unfold zfl
      rw [if_neg (by omega), if_neg (by omega)]
      exact hfa) ?_
    refine u_iload_n C d10 (List.mem_cons_of_mem _ List.mem_cons_self) ?_
    refine u_new C hc hinT hNN htys hdv hci hcl hinst hini (hkq i hiN) ⟨by omega, by omega⟩ d11 ?_
    refine u_dup C d14 ?_
    refine hcall i hiN _ _ _ (by omega) (by omega) (fun j => by unfold znew; rw [if_pos rfl]) ?_
    refine u_aast C hk hty hnk hiN (by omega) hkarr (hkq i hiN) hci ⟨T, NN, hc⟩ ⟨by omega, by omega⟩ ⟨by omega, by omega⟩ d18 ?_
    refine u_iinc1 C (by omega) d19 hnL ?_
    refine u_goto C d22 hback ?_
    have hn1 : n0 + bs * i + bs = n0 + bs * (i + 1) := by rw [Nat.mul_succ]; omega
    rw [hn1]
    refine u_to (V' := zfl w h arr n0 bs (i + 1) V0) (fun b hb1 hb2 j hj => ?_) (ih (i + 1) (cells + 1 + mc) (slots + NN + ms) (by omega) (by omega) (by omega) ?_)
    · unfold zset
      by_cases hba : b = arr
      · subst hba
        by_cases hji : j = i
        · subst hji
          rw [if_pos ⟨rfl, rfl⟩]
          unfold zfl
          rw [if_pos rfl, if_pos (by omega)]
        · rw [if_neg (fun q => hji q.2)]
          unfold zfin
          rw [if_neg (by omega)]
          unfold znew
          rw [if_neg (by omega)]
          unfold zfl
          rw [if_pos rfl, if_pos rfl]
          by_cases hlt : j < i
          · rw [if_pos hlt, if_pos (by omega)]
          · rw [if_neg hlt, if_neg (by omega)]
      · rw [if_neg (fun q => hba q.1)]
        unfold zfin
        by_cases hbq : n0 + bs * i ≤ b
        · rw [if_pos hbq]
          unfold zfl
          rw [if_neg hba, if_pos (by omega)]
        · rw [if_neg hbq]
          unfold znew
          rw [if_neg (by omega)]
          unfold zfl
          rw [if_neg hba, if_neg hba]
    · rw [show cells + 1 + mc + rem * (mc + 1) = cells + (rem + 1) * (mc + 1) by omega, show slots + NN + ms + rem * (ms + NN) = slots + (rem + 1) * (ms + NN) by omega]
      exact kk
end ZF
