/-- a contract whose answer and pool behind it are told outright -/
def zFn (v : Option zv) (h1 : zH) : Option zv → zH → Prop := fun r h2 => r = v ∧ h2 = h1
section ZV4
variable {w : zW} {p : Program} {l : Launch} {e : Env} {R : Room} {s : State} {m : MethodId} {args : Array Value} {below : List Frame} {meth : Method} {c : Code} {nL cells slots : Nat} {Q : State → Prop}
variable {cc : ByteArray} {own : String} {pc : Nat} {loc : List (Option zv)} {stk : List zv} {h : zH}

theorem v_callVf (C : zC w p s m args c nL cc own) {idx ci a n k fr lo : Nat} {y : MethodName} {b : ByteArray} {ret : Option FieldType} {As rest : List zv} {h1 : zH} {v : zv} (hd : decode cc pc = .ok (.invokevirtual idx, 3)) (hm : zMV own idx ci y b n ret k)
    (hc : zCt w l y b n ret fr lo (.inr (ci, a) :: As) h (zFn (some v) h1)) (hs : stk = As.reverse ++ .inr (ci, a) :: rest) (hR : fr + 1 ≤ R.frames ∧ 8 + (n + 11) + lo ≤ R.locals) (hcs : cells ≤ R.cells ∧ slots ≤ R.slots) (hk8 : As.length = k ∧ rest.length ≤ 8)
    (kk : zV w p l e R s m args below meth c nL cells slots Q (pc + 3) loc (v :: rest) h1) : zV w p l e R s m args below meth c nL cells slots Q pc loc stk h :=
  v_callV C hd hm hc hs hR hcs hk8 fun r h2 q => by rw [q.1, q.2]; exact kk
theorem v_callVv (C : zC w p s m args c nL cc own) {idx ci a n k fr lo : Nat} {y : MethodName} {b : ByteArray} {ret : Option FieldType} {As rest : List zv} {h1 : zH} (hd : decode cc pc = .ok (.invokevirtual idx, 3)) (hm : zMV own idx ci y b n ret k)
    (hc : zCt w l y b n ret fr lo (.inr (ci, a) :: As) h (zFn none h1)) (hs : stk = As.reverse ++ .inr (ci, a) :: rest) (hR : fr + 1 ≤ R.frames ∧ 8 + (n + 11) + lo ≤ R.locals) (hcs : cells ≤ R.cells ∧ slots ≤ R.slots) (hk8 : As.length = k ∧ rest.length ≤ 8)
    (kk : zV w p l e R s m args below meth c nL cells slots Q (pc + 3) loc rest h1) : zV w p l e R s m args below meth c nL cells slots Q pc loc stk h :=
  v_callV C hd hm hc hs hR hcs hk8 fun r h2 q => by rw [q.1, q.2]; exact kk
theorem v_callSf (C : zC w p s m args c nL cc own) {idx n k fr lo : Nat} {y : MethodName} {b : ByteArray} {ret : Option FieldType} {As rest : List zv} {h1 : zH} {v : zv} (hd : decode cc pc = .ok (.invokestatic idx, 3)) (hm : zMS own idx y b n ret k)
    (hc : zCt w l y b n ret fr lo As h (zFn (some v) h1)) (hs : stk = As.reverse ++ rest) (hR : fr + 1 ≤ R.frames ∧ 8 + (n + 11) + lo ≤ R.locals) (hcs : cells ≤ R.cells ∧ slots ≤ R.slots) (hk8 : As.length = k ∧ rest.length ≤ 8)
    (kk : zV w p l e R s m args below meth c nL cells slots Q (pc + 3) loc (v :: rest) h1) : zV w p l e R s m args below meth c nL cells slots Q pc loc stk h :=
  v_callS C hd hm hc hs hR hcs hk8 fun r h2 q => by rw [q.1, q.2]; exact kk
theorem v_callSv (C : zC w p s m args c nL cc own) {idx n k fr lo : Nat} {y : MethodName} {b : ByteArray} {ret : Option FieldType} {As rest : List zv} {h1 : zH} (hd : decode cc pc = .ok (.invokestatic idx, 3)) (hm : zMS own idx y b n ret k)
    (hc : zCt w l y b n ret fr lo As h (zFn none h1)) (hs : stk = As.reverse ++ rest) (hR : fr + 1 ≤ R.frames ∧ 8 + (n + 11) + lo ≤ R.locals) (hcs : cells ≤ R.cells ∧ slots ≤ R.slots) (hk8 : As.length = k ∧ rest.length ≤ 8)
    (kk : zV w p l e R s m args below meth c nL cells slots Q (pc + 3) loc rest h1) : zV w p l e R s m args below meth c nL cells slots Q pc loc stk h :=
  v_callS C hd hm hc hs hR hcs hk8 fun r h2 q => by rw [q.1, q.2]; exact kk
theorem v_callNf (C : zC w p s m args c nL cc own) {idx n k fr lo : Nat} {y : MethodName} {host : String} {b : ByteArray} {ret : Option FieldType} {As rest : List zv} {h1 : zH} {v : zv} (hd : decode cc pc = .ok (.invokestatic idx, 3)) (hm : zMN own idx y host b n ret k)
    (hc : zCt w l y b n ret fr lo As h (zFn (some v) h1)) (hs : stk = As.reverse ++ rest) (hR : fr + 1 ≤ R.frames ∧ 8 + (n + 11) + lo ≤ R.locals) (hcs : cells ≤ R.cells ∧ slots ≤ R.slots) (hk8 : As.length = k ∧ rest.length ≤ 8)
    (kk : zV w p l e R s m args below meth c nL cells slots Q (pc + 3) loc (v :: rest) h1) : zV w p l e R s m args below meth c nL cells slots Q pc loc stk h :=
  v_callN C hd hm hc hs hR hcs hk8 fun r h2 q => by rw [q.1, q.2]; exact kk
theorem v_callNv (C : zC w p s m args c nL cc own) {idx n k fr lo : Nat} {y : MethodName} {host : String} {b : ByteArray} {ret : Option FieldType} {As rest : List zv} {h1 : zH} (hd : decode cc pc = .ok (.invokestatic idx, 3)) (hm : zMN own idx y host b n ret k)
    (hc : zCt w l y b n ret fr lo As h (zFn none h1)) (hs : stk = As.reverse ++ rest) (hR : fr + 1 ≤ R.frames ∧ 8 + (n + 11) + lo ≤ R.locals) (hcs : cells ≤ R.cells ∧ slots ≤ R.slots) (hk8 : As.length = k ∧ rest.length ≤ 8)
    (kk : zV w p l e R s m args below meth c nL cells slots Q (pc + 3) loc rest h1) : zV w p l e R s m args below meth c nL cells slots Q pc loc stk h :=
  v_callN C hd hm hc hs hR hcs hk8 fun r h2 q => by rw [q.1, q.2]; exact kk
theorem zmj_ini : Cond.initialized "java/lang/Math" ∈ zw_T := zmem 35 (by decide +kernel)
theorem zmj_min : Cond.static Lib.Math.min.name ∈ zw_T ∧ Cond.code Lib.Math.min.name Lib.Math.min.code 2 (some .int) ∈ zw_T := ⟨zmem 537 (by decide +kernel), zmem 538 (by decide +kernel)⟩
theorem zmj_max : Cond.static Lib.Math.max.name ∈ zw_T ∧ Cond.code Lib.Math.max.name Lib.Math.max.code 2 (some .int) ∈ zw_T := ⟨zmem 519 (by decide +kernel), zmem 520 (by decide +kernel)⟩
theorem zmj_abs : Cond.static Lib.Math.abs.name ∈ zw_T ∧ Cond.code Lib.Math.abs.name Lib.Math.abs.code 1 (some .int) ∈ zw_T := ⟨zmem 746 (by decide +kernel), zmem 747 (by decide +kernel)⟩
def zmin (x y : Int) : Int := if y < x then y else x
def zmax (x y : Int) : Int := if x < y then y else x
def zabs (x : Int) : Int := if 0 ≤ x then x else zw (0 - x)
theorem v_mmin (C : zC w p s m args c nL cc own) {idx : Nat} {x y : Int} (hd : decode cc pc = .ok (.invokestatic idx, 3)) (hm : Cond.methodLink own idx Lib.Math.min.name ∈ zw_T) (hR : 1 ≤ R.frames ∧ stk.length + 13 ≤ R.locals) (hcs : cells ≤ R.cells ∧ slots ≤ R.slots)
    (kk : zV w p l e R s m args below meth c nL cells slots Q (pc + 3) loc (.inl (zmin x y) :: stk) h) : zV w p l e R s m args below meth c nL cells slots Q pc loc (.inl y :: .inl x :: stk) h := by
  intro H locs ls hR1 hS hl hk ho
  obtain ⟨hx, hb, hml, hown, hts, hK⟩ := C
  have hy' : zR y := zok_hd hk
  have hx' : zR x := zok_hd (zok_tl hk)
  have he : (if zi y < zi x then zi y else zi x) = zi (zmin x y) := by
    unfold zmin
    by_cases hq : y < x
    · rw [if_pos hq, if_pos ((zi_lt hy' hx').mpr hq)]
    · rw [if_neg hq, if_neg (fun z => hq ((zi_lt hy' hx').mp z))]
  have hz : zR (zmin x y) := by
    unfold zmin
    split
    · exact hy'
    · exact hx'
  refine va_mmin hx hb (by rw [hml]; exact hl.1.symm) hown (hts _ hm) (hts _ zmj_min.1) (hts _ zmj_ini) (hts _ zmj_min.2) hR.1 (by rw [zsum_len]; exact hR.2) hcs.1 hcs.2 hd ?_
  rw [he]
  exact kk H locs ls hR1 hS hl (zok_cons hz (zok_tl (zok_tl hk))) ho
theorem v_mmax (C : zC w p s m args c nL cc own) {idx : Nat} {x y : Int} (hd : decode cc pc = .ok (.invokestatic idx, 3)) (hm : Cond.methodLink own idx Lib.Math.max.name ∈ zw_T) (hR : 1 ≤ R.frames ∧ stk.length + 13 ≤ R.locals) (hcs : cells ≤ R.cells ∧ slots ≤ R.slots)
    (kk : zV w p l e R s m args below meth c nL cells slots Q (pc + 3) loc (.inl (zmax x y) :: stk) h) : zV w p l e R s m args below meth c nL cells slots Q pc loc (.inl y :: .inl x :: stk) h := by
  intro H locs ls hR1 hS hl hk ho
  obtain ⟨hx, hb, hml, hown, hts, hK⟩ := C
  have hy' : zR y := zok_hd hk
  have hx' : zR x := zok_hd (zok_tl hk)
  have he : (if zi x < zi y then zi y else zi x) = zi (zmax x y) := by
    unfold zmax
    by_cases hq : x < y
    · rw [if_pos hq, if_pos ((zi_lt hx' hy').mpr hq)]
    · rw [if_neg hq, if_neg (fun z => hq ((zi_lt hx' hy').mp z))]
  have hz : zR (zmax x y) := by
    unfold zmax
    split
    · exact hy'
    · exact hx'
  refine va_mmax hx hb (by rw [hml]; exact hl.1.symm) hown (hts _ hm) (hts _ zmj_max.1) (hts _ zmj_ini) (hts _ zmj_max.2) hR.1 (by rw [zsum_len]; exact hR.2) hcs.1 hcs.2 hd ?_
  rw [he]
  exact kk H locs ls hR1 hS hl (zok_cons hz (zok_tl (zok_tl hk))) ho
theorem v_mabs (C : zC w p s m args c nL cc own) {idx : Nat} {x : Int} (hd : decode cc pc = .ok (.invokestatic idx, 3)) (hm : Cond.methodLink own idx Lib.Math.abs.name ∈ zw_T) (hR : 1 ≤ R.frames ∧ stk.length + 13 ≤ R.locals) (hcs : cells ≤ R.cells ∧ slots ≤ R.slots)
    (kk : zV w p l e R s m args below meth c nL cells slots Q (pc + 3) loc (.inl (zabs x) :: stk) h) : zV w p l e R s m args below meth c nL cells slots Q pc loc (.inl x :: stk) h := by
  intro H locs ls hR1 hS hl hk ho
  obtain ⟨hx, hb, hml, hown, hts, hK⟩ := C
  have hx' : zR x := zok_hd hk
  have he : (if 0 ≤ zi x then zi x else 0 - zi x) = zi (zabs x) := by
    unfold zabs
    have h0 : 0 ≤ zi x ↔ 0 ≤ x := by rw [← zi_0]; exact zi_le zR_0 hx'
    by_cases hq : 0 ≤ x
    · rw [if_pos hq, if_pos (h0.mpr hq)]
    · rw [if_neg hq, if_neg (fun z => hq (h0.mp z)), ← zi_0, zi_sub]
  have hz : zR (zabs x) := by
    unfold zabs
    split
    · exact hx'
    · exact zw_R _
  refine va_mabs hx hb (by rw [hml]; exact hl.1.symm) hown (hts _ hm) (hts _ zmj_abs.1) (hts _ zmj_ini) (hts _ zmj_abs.2) hR.1 (by rw [zsum_len]; exact hR.2) hcs.1 hcs.2 hd ?_
  rw [he]
  exact kk H locs ls hR1 hS hl (zok_cons hz (zok_tl hk)) ho
/-- n places copied between two rows of ints of the same length, from 0 to 0 -/
def zcpy (h : zH) (a b n : Nat) : zH := (fun q i => if q = b ∧ i < n then h.1 a i else h.1 q i, h.2)
theorem zmj_cpy : Cond.native arraycopyName ∈ zw_T ∧ Cond.static arraycopyName ∈ zw_T ∧ Cond.initialized "java/lang/System" ∈ zw_T := ⟨zmem 323 (by decide +kernel), zmem 322 (by decide +kernel), zmem 26 (by decide +kernel)⟩
theorem zRg.cpy {a b n : Nat} (hg : zRg h) : zRg (zcpy h a b n) := by
  intro q i
  show zR (if q = b ∧ i < n then h.1 a i else h.1 q i)
  split
  · exact hg a i
  · exact hg q i
theorem v_copy (C : zC w p s m args c nL cc own) {idx k a b n : Nat} (hd : decode cc pc = .ok (.invokestatic idx, 3)) (hm : Cond.methodLink own idx arraycopyName ∈ zw_T) (hA : zIA k n .int) (hn : n < 2147483648) (hR : 1 ≤ R.frames ∧ stk.length + (nativeFrameWords "java/lang/System" "arraycopy" 5 + 11) ≤ R.locals)
    (kk : zV w p l e R s m args below meth c nL cells slots Q (pc + 3) loc stk (zcpy h a b n)) : zV w p l e R s m args below meth c nL cells slots Q pc loc (.inl (n : Int) :: .inl 0 :: .inr (k, b) :: .inl 0 :: .inr (k, a) :: stk) h := by
  intro H locs ls hR1 hS hl hk ho
  obtain ⟨hx, hb, hml, hown, hts, hK⟩ := C
  obtain ⟨g1, g2, g3⟩ := hA
  have hkb : zwK w b = k + 1 := zok_hd (zok_tl (zok_tl hk))
  have hka : zwK w a = k + 1 := zok_hd (zok_tl (zok_tl (zok_tl (zok_tl hk))))
  have hnr : zR (n : Int) := zok_hd hk
  obtain ⟨q0, hi⟩ := hR1.get hka (by omega)
  obtain ⟨q1, hj⟩ := hR1.get hkb (by omega)
  have hj0 := hj
  have ht := ztys_at (w := w) g1 g2
  rw [zE_arr hka g1, zcont_i a (by rw [g3]) (by rw [g3]; exact fun q => by cases q), g3] at hi
  rw [zE_arr hkb g1, zcont_i b (by rw [g3]) (by rw [g3]; exact fun q => by cases q), g3] at hj
  rw [g3] at ht
  have e0 : (zi 0).toNatClampNeg = 0 := by rw [zi_nat zR_0]; rfl
  have en : (zi (n : Int)).toNatClampNeg = n := by rw [zi_nat hnr]; exact Int.toNat_natCast n
  have n0 : ¬ zi 0 < 0 := by rw [zi_0]; decide
  have nn : ¬ zi (n : Int) < 0 := by
    rw [← zi_0, zi_lt hnr zR_0]
    omega
  refine va_copyi (f := fun j => zi (h.1 a j)) (g := fun j => zi (h.1 b j)) (ty := .int) (sp := zi 0) (dp := zi 0) (n := zi (n : Int)) hx hb (by rw [hml]; exact hl.1.symm) hown (hts _ hm) (hts _ zmj_cpy.1) (hts _ zmj_cpy.2.1) (hts _ zmj_cpy.2.2) hK.1 hR1.1 hR1.2.1 hS q0 q1 (k - 9) (k - 9) hi hj ht ht rfl n0 n0 nn (by rw [e0, en]; simp) (by rw [e0, en]; simp) (fun i hi => rfl) hR.1 (by rw [zsum_len]; exact hR.2) hd (fun H1 locs1 hP hD hS1 => ?_)
  rw [e0, en] at hP hD
  have hE : ∀ q, zE w (zcpy h a b n) q = va_up (zE w h) b (.inl (zwA w k, n, .inl (va_cpy (fun j => zi (h.1 a j)) (fun j => zi (h.1 b j)) 0 0 n))) q := by
    intro q
    by_cases hq : q = b
    · subst hq
      rw [va_up_self, zE_arr hkb g1, zcont_i q (by rw [g3]) (by rw [g3]; exact fun q => by cases q), g3]
      congr 4
      funext i
      by_cases hin : i < n
      · simp [zcpy, va_cpy, hin]
      · simp [zcpy, va_cpy, hin]
    · rw [va_up_ne _ _ hq]
      unfold zE zEk
      have e1 : ∀ k, zslot k (zcpy h a b n) q = zslot k h q := by
        intro k
        funext i
        unfold zslot zcpy
        simp [hq]
      have e2 : ∀ k, zcont k (zcpy h a b n) q = zcont k h q := by
        intro k
        unfold zcont zcpy
        simp [hq]
      simp only [e1, e2]
  exact kk H1 locs1 ls (zRel.step (Or.inr ⟨H, hR1⟩) (by omega) hj0 hP hD hE hR1.2.2.1 (zRg.cpy hR1.2.2.2.1)) hS1 hl (zok_tl (zok_tl (zok_tl (zok_tl (zok_tl hk))))) ho
end ZV4
