/-! The script's length and numbers. -/
section VSC
variable {w : zW} {p : Program} {l : Launch} {e : Env} {R : Room} {s : State} {m : MethodId} {args : Array Value} {below : List Frame} {meth : Method} {c : Code} {nL cells slots : Nat} {Q : State → Prop}
variable {cc : ByteArray} {own : String} {pc : Nat} {loc : List (Option zv)} {stk : List zv} {h : zH}
theorem zSc (C : zC w p s m args c nL cc own) : (zwK w (zwS w 30) = 31 ∧ va_T .int (zwS w 30) (zwN w) (fun j => .int (zi (zwX w j))) (zA w) s s.heap) ∧ (zwN w ≤ 260 ∧ ∀ j, zR (zwX w j)) := ⟨C.2.2.2.2.2.2.2.1.2.2.2.2.2.2.2.1, C.2.2.2.2.2.2.2.1.2.2.2.2.2.2.2.2.1⟩
theorem v_xlen (C : zC w p s m args c nL cc own) (hd : decode cc pc = .ok (.arraylength, 1))
    (kk : zV w p l e R s m args below meth c nL cells slots Q (pc + 1) loc (.inl ((zwN w : Nat) : Int) :: stk) h) : zV w p l e R s m args below meth c nL cells slots Q pc loc (.inr (30, zwS w 30) :: stk) h := by
  intro H locs ls hR hS hl hk ho
  have hz := zSc C
  obtain ⟨hx, hb, hml, hown, hts, hK⟩ := C
  have e1 : Int32.ofNat (zwN w) = zi ((zwN w : Nat) : Int) := rfl
  have h1 := hz.2.1
  have h2 : zok w (.inl ((zwN w : Nat) : Int)) := by show -2147483648 ≤ ((zwN w : Nat) : Int) ∧ ((zwN w : Nat) : Int) < 2147483648; omega
  exact va_tlen hx hb hz.1.2 hS e1 hd (kk H locs ls hR hS hl (zok_cons h2 (zok_tl hk)) ho)
theorem v_xald (C : zC w p s m args c nL cc own) {x : Int} (hd : decode cc pc = .ok (.iaload, 1)) (h0 : 0 ≤ x) (h1 : x < ((zwN w : Nat) : Int))
    (kk : zV w p l e R s m args below meth c nL cells slots Q (pc + 1) loc (.inl (zwX w x.toNat) :: stk) h) : zV w p l e R s m args below meth c nL cells slots Q pc loc (.inl x :: .inr (30, zwS w 30) :: stk) h := by
  intro H locs ls hR hS hl hk ho
  have hz := zSc C
  obtain ⟨hx, hb, hml, hown, hts, hK⟩ := C
  have hxr : zR x := zok_hd hk
  exact va_ti hx hb hz.1.2 hS (zi_in hxr h0 h1) (by rw [zi_nat hxr]; rfl) hd (kk H locs ls hR hS hl (zok_cons (v := .inl (zwX w x.toNat)) (hz.2.2 _) (zok_tl (zok_tl hk))) ho)
end VSC
section QSC
variable {α : Type} {w : zW} {p : Program} {l : Launch} {e : Env} {R : Room} {s : State} {m : MethodId} {args : Array Value} {below : List Frame} {meth : Method} {c : Code} {nL : Nat} {f : α → Option zv}
variable {cc : ByteArray} {own : String} {pc : Nat} {loc : List (Option zv)} {stk : List zv} {h : zH}
theorem q_xlen {E : Option (α × zH)} (C : zC w p s m args c nL cc own) (hd : decode cc pc = .ok (.arraylength, 1))
    (kk : zQV w p l e R s m args below meth c nL f E (pc + 1) loc (.inl ((zwN w : Nat) : Int) :: stk) h) : zQV w p l e R s m args below meth c nL f E pc loc (.inr (30, zwS w 30) :: stk) h :=
  fun r h' z => v_xlen C hd (kk r h' z)
theorem q_xald {E : Option (α × zH)} (C : zC w p s m args c nL cc own) {x : Int} (hd : decode cc pc = .ok (.iaload, 1))
    (kk : zQV w p l e R s m args below meth c nL f E (pc + 1) loc (.inl (zwX w x.toNat) :: stk) h) : zQV w p l e R s m args below meth c nL f (zgi (zwN w) x E) pc loc (.inl x :: .inr (30, zwS w 30) :: stk) h :=
  fun r h' z => v_xald C hd (zgi_some z).1.1 (zgi_some z).1.2 (kk r h' (zgi_some z).2)
theorem p_xlen {E : Option α} (C : zC w p s m args c nL cc own) (hd : decode cc pc = .ok (.arraylength, 1))
    (kk : zQP w p l e R s m args below meth c nL f E (pc + 1) loc (.inl ((zwN w : Nat) : Int) :: stk) h) : zQP w p l e R s m args below meth c nL f E pc loc (.inr (30, zwS w 30) :: stk) h :=
  fun r z => v_xlen C hd (kk r z)
theorem p_xald {E : Option α} (C : zC w p s m args c nL cc own) {x : Int} (hd : decode cc pc = .ok (.iaload, 1))
    (kk : zQP w p l e R s m args below meth c nL f E (pc + 1) loc (.inl (zwX w x.toNat) :: stk) h) : zQP w p l e R s m args below meth c nL f (zgi (zwN w) x E) pc loc (.inl x :: .inr (30, zwS w 30) :: stk) h :=
  fun r z => v_xald C hd (zgi_some z).1.1 (zgi_some z).1.2 (kk r (zgi_some z).2)
end QSC
