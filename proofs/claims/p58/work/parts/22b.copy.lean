/-! The copy of a static row into a row of the pool. -/
def zcpyT (h : zH) (i b : Nat) : zH := (fun q j => if q = b ∧ j < 7 then zsV i j else h.1 q j, h.2)
theorem zcpyT_Rg {h : zH} {i b : Nat} (hi : i < 3) (hg : zRg h) : zRg (zcpyT h i b) := by
  intro q j
  show zR (if q = b ∧ j < 7 then zsV i j else h.1 q j)
  split
  · rename_i hq
    exact zsV_R i hi j hq.2
  · exact hg q j
theorem v_copyT {w : zW} {p : Program} {l : Launch} {e : Env} {R : Room} {s : State} {m : MethodId} {args : Array Value} {below : List Frame} {meth : Method} {c : Code} {nL cells slots : Nat} {Q : State → Prop} {cc : ByteArray} {own : String} {pc : Nat} {loc : List (Option zv)} {stk : List zv} {h : zH}
    (C : zC w p s m args c nL cc own) {idx i b : Nat} (hd : decode cc pc = .ok (.invokestatic idx, 3)) (hm : Cond.methodLink own idx arraycopyName ∈ zw_T) (hi : i < 3) (hR : 1 ≤ R.frames ∧ stk.length + (nativeFrameWords "java/lang/System" "arraycopy" 5 + 11) ≤ R.locals)
    (kk : zV w p l e R s m args below meth c nL cells slots Q (pc + 3) loc stk (zcpyT h i b)) : zV w p l e R s m args below meth c nL cells slots Q pc loc (.inl 7 :: .inl 0 :: .inr (9, b) :: .inl 0 :: .inr (30, zwS w (20 + i)) :: stk) h := by
  intro H locs ls hR1 hS hl hk ho
  obtain ⟨hx, hb, hml, hown, hts, hK⟩ := C
  have hkb : zwK w b = 9 + 1 := zok_hd (zok_tl (zok_tl hk))
  obtain ⟨q1, hj⟩ := hR1.get hkb (by omega)
  have hj0 := hj
  have ht : (ztys w)[9 - 9]? = some (zwA w 9, .int) := ztys_at (w := w) (k := 9) (by omega) (by omega)
  rw [zE_arr hkb (by omega), zcont_i b rfl (fun q => by cases q)] at hj
  obtain ⟨-, k2, scr, s1, s2, s3, s4, -, s5, s7⟩ := hK.2.2.1.1 i hi
  have c0 : H[zwS w (20 + i)]? = some scr := by rw [hS.2.1 _ (Array.getElem?_eq_some_iff.mp s1).1 s7]; exact s1
  have c1 : H[b]? = some (vp_cell (zwA w 9) (7, .inl (fun j => zi (h.1 b j)))) := hR1.1 q1 _ hj
  obtain ⟨s6, k0, hk0, cm0, hkk0⟩ := s2
  obtain ⟨-, k1, hk1, cm1, hkk1⟩ := (hK.1.2 (9 - 9) _ ht).1 7 (fun j => .int (zi (h.1 b j)))
  have e0 : (zi 0).toNatClampNeg = 0 := by decide
  have e7 : (zi 7).toNatClampNeg = 7 := by decide
  intro T hT X
  obtain ⟨vm', X', step⟩ := X.arraycopy hx hown (hts _ hm) (hts _ zmj_cpy.1) (hts _ zmj_cpy.2.1) (hts _ zmj_cpy.2.2) (src := zwS w (20 + i)) (dst := b) (cs := scr) (cd := vp_cell (zwA w 9) (7, .inl (fun j => zi (h.1 b j)))) (srcPos := zi 0) (destPos := zi 0) (n := zi 7) (by rw [hT]; exact c0) (by rw [hT]; exact c1)
    s6 (fun _ h => by cases h) s3 (fun h => by cases h) hk0 hk1 hkk0 hkk1 (by simp [refKind]) (by decide) (by decide) (by decide)
    (by have : (zi 0).toInt = 0 := by decide
        have h7 : (zi 7).toInt = 7 := by decide
        rw [this, h7]; omega)
    (by have : (zi 0).toInt = 0 := by decide
        have h7 : (zi 7).toInt = 7 := by decide
        rw [this, h7]
        show ¬ _ > ((arrV (zwA w 9) 7 (fun j => .int (zi (h.1 b j)))).slots.size : Int)
        rw [arrV_size]
        omega)
    (fun vm₁ _ j hj2 => by
      rw [e7] at hj2
      have e : scr.slots.getD ((zi 0).toNatClampNeg + j) .null = .int (zi (zsV i j)) := by
        rw [e0, Nat.zero_add, Array.getD_eq_getD_getElem?, s5 _ (by omega)]
        rfl
      refine ⟨?_, ?_⟩
      · rw [e]
        rfl
      · rw [e]
        exact trivial)
    (g := F0 m pc ls ((.inl 7 :: .inl 0 :: .inr (9, b) :: .inl 0 :: .inr (30, zwS w (20 + i)) :: stk : List zv).map zval)) rfl (by rw [hml]; exact hl.1) (rest := stk.map zval) rfl (by rw [hb]; exact hd) hR.1 (by
      have := hR.2
      show 2 * 0 + ((stk.map zval).map fun v => v.category).sum + _ ≤ _
      rw [zsum_len]
      omega)
  have e1 : copied scr (vp_cell (zwA w 9) (7, .inl (fun j => zi (h.1 b j)))) (zi 0) (zi 0) (zi 7) = vp_cell (zwA w 9) (7, .inl (va_cpy (fun j => zi (zsV i j)) (fun j => zi (h.1 b j)) 0 0 7)) := by
    have := va_copiedX (fun z => .int z) scr (zwA w 9) (fun j => zi (zsV i j)) (fun j => zi (h.1 b j)) (n1 := 7) (sp := (zi 0).toNatClampNeg) (dp := (zi 0).toNatClampNeg) (n := (zi 7).toNatClampNeg) s5 (by rw [e0, e7]; omega)
    rw [e0, e7] at this
    exact this
  rw [e1] at X' step
  have hl1 : b < H.size := (Array.getElem?_eq_some_iff.mp c1).1
  have hheap : ((T.setVm vm').setCell b (vp_cell (zwA w 9) (7, .inl (va_cpy (fun j => zi (zsV i j)) (fun j => zi (h.1 b j)) 0 0 7)))).heap = H.setIfInBounds b (vp_cell (zwA w 9) (7, .inl (va_cpy (fun j => zi (zsV i j)) (fun j => zi (h.1 b j)) 0 0 7))) := by rw [← hT]; rfl
  have oq : ∀ q : Nat, q ≠ b → (H.setIfInBounds b (vp_cell (zwA w 9) (7, .inl (va_cpy (fun j => zi (zsV i j)) (fun j => zi (h.1 b j)) 0 0 7))))[q]? = H[q]? := fun q hq => by simp [Array.getElem?_setIfInBounds, Ne.symm hq]
  have hP := hR1.1.set hR1.2.1 hj (e := .inl (zwA w 9, 7, .inl (va_cpy (fun j => zi (zsV i j)) (fun j => zi (h.1 b j)) 0 0 7))) (show (H.setIfInBounds b _)[b]? = some _ by simp [Array.getElem?_setIfInBounds, hl1]) oq
  have hD := hR1.2.1.set (e := .inl (zwA w 9, 7, .inl (va_cpy (fun j => zi (zsV i j)) (fun j => zi (h.1 b j)) 0 0 7))) hj
  have hAb : zA w b := hR1.2.1.2 q1 _ hj
  have hE : ∀ q, zE w (zcpyT h i b) q = va_up (zE w h) b (.inl (zwA w 9, 7, .inl (va_cpy (fun j => zi (zsV i j)) (fun j => zi (h.1 b j)) 0 0 7))) q := by
    intro q
    by_cases hq : q = b
    · subst hq
      rw [va_up_self, zE_arr hkb (by omega), zcont_i q rfl (fun q => by cases q)]
      show Sum.inl (zwA w 9, 7, _) = _
      congr 4
      funext j
      by_cases hin : j < 7
      · simp [zcpyT, va_cpy, hin]
      · simp [zcpyT, va_cpy, hin]
    · rw [va_up_ne _ _ hq]
      unfold zE zEk
      have e1 : ∀ k, zslot k (zcpyT h i b) q = zslot k h q := by
        intro k
        funext j
        unfold zslot zcpyT
        simp [hq]
      have e2 : ∀ k, zcont k (zcpyT h i b) q = zcont k h q := by
        intro k
        unfold zcont zcpyT
        simp [hq]
      simp only [e1, e2]
  have hS1 : va_S (zA w) s.heap (H.setIfInBounds b (vp_cell (zwA w 9) (7, .inl (va_cpy (fun j => zi (zsV i j)) (fun j => zi (h.1 b j)) 0 0 7)))) (locs ++ (List.range' 0 7).map (fun k => (⟨b, k⟩ : Loc))) := ⟨by simp; exact hS.1, fun q g1 g2 => by
      rw [oq q (fun e => g2 (by rw [e]; exact hAb))]
      exact hS.2.1 q g1 g2, fun q hq => by
      rcases List.mem_append.mp hq with h | h
      · exact hS.2.2 q h
      · obtain ⟨z, -, hz⟩ := List.mem_map.mp h
        rw [← hz]
        exact hAb⟩
  obtain ⟨t, a1, b1⟩ := kk _ _ ls (zRel.step (Or.inr ⟨H, hR1⟩) (by omega) hj0 hP hD hE hR1.2.2.1 (zcpyT_Rg hi hR1.2.2.2.1)) hS1 hl (zok_tl (zok_tl (zok_tl (zok_tl (zok_tl hk))))) ho _ hheap X'
  exact ⟨t, step t a1, b1⟩
theorem q_copyT {α : Type} {w : zW} {p : Program} {l : Launch} {e : Env} {R : Room} {s : State} {m : MethodId} {args : Array Value} {below : List Frame} {meth : Method} {c : Code} {nL : Nat} {f : α → Option zv} {cc : ByteArray} {own : String} {pc : Nat} {loc : List (Option zv)} {stk : List zv} {h : zH} (C : zC w p s m args c nL cc own)
    {k : zH → Option (α × zH)} {idx i b : Nat} (hd : decode cc pc = .ok (.invokestatic idx, 3)) (hm : Cond.methodLink own idx arraycopyName ∈ zw_T) (hi : i < 3) (hR : 1 ≤ R.frames ∧ stk.length + (nativeFrameWords "java/lang/System" "arraycopy" 5 + 11) ≤ R.locals) (kk : ∀ h1, zQV w p l e R s m args below meth c nL f (k h1) (pc + 3) loc stk h1) : zQV w p l e R s m args below meth c nL f (zlet (zcpyT h i b) k) pc loc (.inl 7 :: .inl 0 :: .inr (9, b) :: .inl 0 :: .inr (30, zwS w (20 + i)) :: stk) h :=
  fun r h' z => v_copyT C hd hm hi hR (kk _ r h' z)
