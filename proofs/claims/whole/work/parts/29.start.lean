/-! The world at the law's entry, out of the words of the tables and of what is given of the start. -/
theorem lwm (i : Nat) {x : Cond} (h : decide (lw_tbl[i]? = some x) = true) : x ∈ lw_tbl := List.mem_of_getElem? (of_decide_eq_true h)
theorem zw_lw {x : Cond} (h : x ∈ zw_T) : x ∈ lw_tbl := (List.mem_filter.mp h).1
def zpS : List (String × Nat) := [(RX2, 55), (RX2, 64), (RX2, 69), (RX2, 74), (RX2, 79), (RX2, 170), (RX2, 172), (RX2, 174), (RX2, 176), (RX2, 178), (RX2, 180), (RX2, 181), (RX8, 93), (RX7, 277), (RX7, 282), (RX7, 284)]
def ztm (i : Nat) : Term := .string (zpS.getD i (RX2, 0)).1 (zpS.getD i (RX2, 0)).2
/-- which arrays -/
theorem zarr_ex {s : State} {args : Array Value} (hts : ∀ w ∈ lw_tbl, w.before args s = true) (k : Nat) : ∃ cA : ClassId, 9 ≤ k → k < 22 → ArrOfT s cA (zar k).2.2 ∧ va_RA s cA (zar k).2.2 ∧ s.vm.findClass ("[" ++ (zar k).2.2.toString) = some cA := by
  have pi : ∀ ty : FieldType, (Cond.arrayClass ty).before args s = true → (∀ C, ty ≠ .object C) → ∃ cA : ClassId, ArrOfT s cA ty ∧ va_RA s cA ty ∧ s.vm.findClass ("[" ++ ty.toString) = some cA := by
    intro ty h hne
    obtain ⟨cA, kA, comp, h1, h2, h3⟩ := Cond.arrayClass_spec h
    refine ⟨cA, fun n z => ⟨fun k h => (by cases h), kA, h2, comp, h3⟩, ?_, h1⟩
    cases ty with
    | object C => exact absurd rfl (hne C)
    | _ => trivial
  have po : ∀ C : String, (Cond.arrayOver (.object C)).before args s = true → ∃ cA : ClassId, ArrOfT s cA (.object C) ∧ va_RA s cA (.object C) ∧ s.vm.findClass ("[" ++ (FieldType.object C).toString) = some cA := by
    intro C h
    obtain ⟨comp, cA, kA, h1, h2, h3, h4, h5⟩ := Cond.arrayOver_spec h
    exact ⟨cA, fun n z => ⟨fun k h => (by cases h), kA, h3, comp, h4⟩, ⟨kA, comp, h3, h4, h1, h5⟩, h5⟩
  have I := pi .int (hts _ (lwm 149 (by decide +kernel))) (fun C q => by cases q)
  have B := pi .byte (hts _ (lwm 339 (by decide +kernel))) (fun C q => by cases q)
  have J := pi .long (hts _ (lwm 1719 (by decide +kernel))) (fun C q => by cases q)
  have o5 := po RX5 (hts _ (lwm 105 (by decide +kernel)))
  have o3 := po RX3 (hts _ (lwm 107 (by decide +kernel)))
  have o0 := po RX0 (hts _ (lwm 109 (by decide +kernel)))
  have o4 := po RX4 (hts _ (lwm 290 (by decide +kernel)))
  match k with
  | 9 => exact ⟨I.choose, fun _ _ => I.choose_spec⟩
  | 10 => exact ⟨I.choose, fun _ _ => I.choose_spec⟩
  | 11 => exact ⟨o5.choose, fun _ _ => o5.choose_spec⟩
  | 12 => exact ⟨o3.choose, fun _ _ => o3.choose_spec⟩
  | 13 => exact ⟨o0.choose, fun _ _ => o0.choose_spec⟩
  | 14 => exact ⟨B.choose, fun _ _ => B.choose_spec⟩
  | 15 => exact ⟨o4.choose, fun _ _ => o4.choose_spec⟩
  | 16 => exact ⟨I.choose, fun _ _ => I.choose_spec⟩
  | 17 => exact ⟨I.choose, fun _ _ => I.choose_spec⟩
  | 18 => exact ⟨I.choose, fun _ _ => I.choose_spec⟩
  | 19 => exact ⟨I.choose, fun _ _ => I.choose_spec⟩
  | 20 => exact ⟨I.choose, fun _ _ => I.choose_spec⟩
  | 21 => exact ⟨J.choose, fun _ _ => J.choose_spec⟩
  | 0 => exact ⟨0, fun h => absurd h (by decide)⟩
  | 1 => exact ⟨0, fun h => absurd h (by decide)⟩
  | 2 => exact ⟨0, fun h => absurd h (by decide)⟩
  | 3 => exact ⟨0, fun h => absurd h (by decide)⟩
  | 4 => exact ⟨0, fun h => absurd h (by decide)⟩
  | 5 => exact ⟨0, fun h => absurd h (by decide)⟩
  | 6 => exact ⟨0, fun h => absurd h (by decide)⟩
  | 7 => exact ⟨0, fun h => absurd h (by decide)⟩
  | 8 => exact ⟨0, fun h => absurd h (by decide)⟩
  | k + 22 => exact ⟨0, fun _ h => absurd h (by omega)⟩
theorem zcls_ex {s : State} {args : Array Value} (hts : ∀ w ∈ lw_tbl, w.before args s = true) (c : Nat) : ∃ d : ClassId × (Nat → Nat), ∀ q, vwCl[c]? = some q → u_Kn s q.1 q.2.1 q.2.2 d.1 d.2 := by
  have key : ∀ {C : String} {T : u_T} {N : Nat}, (∀ w ∈ u_ws C T N, w ∈ lw_tbl) → (Cond.instantiable C N).before args s = true → ∃ d : ClassId × (Nat → Nat), u_Kn s C T N d.1 d.2 := fun h1 h2 => by
    obtain ⟨cC, iS, h⟩ := u_known hts h1 h2
    exact ⟨(cC, iS), h⟩
  have k0 := key (C := RX0) (T := TX0) (N := 11) (fun w h => zw_lw (inT0 w h)) (hts _ (lwm 172 (by decide +kernel)))
  have k1 := key (C := RX1) (T := TX1) (N := 2) (fun w h => zw_lw (inT1 w h)) (hts _ (lwm 284 (by decide +kernel)))
  have k2 := key (C := RX2) (T := TX2) (N := 6) (fun w h => zw_lw (inT2 w h)) (hts _ (lwm 301 (by decide +kernel)))
  have k3 := key (C := RX3) (T := TX3) (N := 4) (fun w h => zw_lw (inT3 w h)) (hts _ (lwm 150 (by decide +kernel)))
  have k4 := key (C := RX4) (T := TX4) (N := 9) (fun w h => zw_lw (inT4 w h)) (hts _ (lwm 99 (by decide +kernel)))
  have k5 := key (C := RX5) (T := TX5) (N := 8) (fun w h => zw_lw (inT5 w h)) (hts _ (lwm 110 (by decide +kernel)))
  have k6 := key (C := RX6) (T := TX6) (N := 7) (fun w h => zw_lw (inT6 w h)) (hts _ (lwm 307 (by decide +kernel)))
  have k7 := key (C := RX7) (T := TX7) (N := 5) (fun w h => zw_lw (inT7 w h)) (hts _ (lwm 91 (by decide +kernel)))
  have k8 := key (C := RX8) (T := TX8) (N := 29) (fun w h => zw_lw (inT8 w h)) (hts _ (lwm 1183 (by decide +kernel)))
  match c with
  | 0 => exact ⟨k0.choose, fun q hq => by cases hq; exact k0.choose_spec⟩
  | 1 => exact ⟨k1.choose, fun q hq => by cases hq; exact k1.choose_spec⟩
  | 2 => exact ⟨k2.choose, fun q hq => by cases hq; exact k2.choose_spec⟩
  | 3 => exact ⟨k3.choose, fun q hq => by cases hq; exact k3.choose_spec⟩
  | 4 => exact ⟨k4.choose, fun q hq => by cases hq; exact k4.choose_spec⟩
  | 5 => exact ⟨k5.choose, fun q hq => by cases hq; exact k5.choose_spec⟩
  | 6 => exact ⟨k6.choose, fun q hq => by cases hq; exact k6.choose_spec⟩
  | 7 => exact ⟨k7.choose, fun q hq => by cases hq; exact k7.choose_spec⟩
  | 8 => exact ⟨k8.choose, fun q hq => by cases hq; exact k8.choose_spec⟩
  | c + 9 => exact ⟨(0, fun _ => 0), fun q hq => by simp [vwCl] at hq⟩
/-- the kinds, by how far a cell lies behind the base -/
def gK (o : Nat) : Nat := if o = 0 then 8 else if o < 42 then skK (o - 1) else if o < 83 then skK (o - 42) else if o < 87 then (if o = 83 then 6 else if o = 84 then 11 else if o = 85 then 2 else 16) else if o < 497 then skK ((o - 87) % 41) else if o < 500 then (if o = 497 then 3 else if o = 498 then 7 else 15) else if o < 541 then skK (o - 500) else if o < 552 then sm_K (o - 541) else if o = 552 then 22 else 0
def zFl : List Cond := flatC (Jvm.Cond.and given_1 narrow_1)
theorem zfm (i : Nat) {x : Cond} (h : decide (zFl[i]? = some x) = true) : x ∈ flatC (Jvm.Cond.and given_1 narrow_1) := List.mem_of_getElem? (of_decide_eq_true h)
def zps : List Nat := [94, 106, 118, 128, 139, 150, 165, 180, 200, 220, 238, 256, 368, 275, 306, 335]
def zrk : List Nat := [0, 1, 2, 3, 4, 5, 6, 7, 8, 9, 10, 11, 15, 12, 13, 14]
def zinv : List Nat := [0, 1, 2, 3, 4, 5, 6, 7, 8, 9, 10, 11, 13, 14, 15, 12]
theorem zfl_1 : ∀ i, i < 16 → Cond.exactly (ztm i) "java/lang/String" ∈ flatC (Jvm.Cond.and given_1 narrow_1) := fun i hi => zfm (zps.getD i 0) ((by decide +kernel : ∀ i, i < 16 → decide (zFl[zps.getD i 0]? = some (Cond.exactly (ztm i) "java/lang/String")) = true) i hi)
theorem zfl_2 : ∀ i, i < 16 → Cond.eq (.field (ztm i) "java/lang/String" "coder" "B") (.int 0) ∈ flatC (Jvm.Cond.and given_1 narrow_1) := fun i hi => zfm (zps.getD i 0 + 1) ((by decide +kernel : ∀ i, i < 16 → decide (zFl[zps.getD i 0 + 1]? = some (Cond.eq (.field (ztm i) "java/lang/String" "coder" "B") (.int 0))) = true) i hi)
theorem zfl_3 : ∀ i, i < 16 → Cond.arrayOf (.field (ztm i) "java/lang/String" "value" "[B") .byte ∈ flatC (Jvm.Cond.and given_1 narrow_1) := fun i hi => zfm (zps.getD i 0 + 2) ((by decide +kernel : ∀ i, i < 16 → decide (zFl[zps.getD i 0 + 2]? = some (Cond.arrayOf (.field (ztm i) "java/lang/String" "value" "[B") .byte)) = true) i hi)
theorem zfl_4 : ∀ i, i < 16 → Cond.eq (.length (.field (ztm i) "java/lang/String" "value" "[B")) (.int (Int32.ofNat (zsL.getD i 0))) ∈ flatC (Jvm.Cond.and given_1 narrow_1) := fun i hi => zfm (zps.getD i 0 + 3) ((by decide +kernel : ∀ i, i < 16 → decide (zFl[zps.getD i 0 + 3]? = some (Cond.eq (.length (.field (ztm i) "java/lang/String" "value" "[B")) (.int (Int32.ofNat (zsL.getD i 0))))) = true) i hi)
theorem zfl_5_0 : ∀ j, j < zsL.getD 0 0 → decide (zFl[zps.getD 0 0 + 4 + j]? = some (Cond.eq (.elem (.field (ztm 0) "java/lang/String" "value" "[B") (.int (Int32.ofNat j))) (.int ((zsB.getD 0 []).getD j 0)))) = true := by decide +kernel
theorem zfl_6_0 : ∀ r, r < 0 → decide (zFl[zps.getD 0 0 + 4 + zsL.getD 0 0 + r]? = some (Cond.not (Cond.eq (ztm (zinv.getD r 0)) (ztm 0)))) = true := by decide +kernel
theorem zfl_5_1 : ∀ j, j < zsL.getD 1 0 → decide (zFl[zps.getD 1 0 + 4 + j]? = some (Cond.eq (.elem (.field (ztm 1) "java/lang/String" "value" "[B") (.int (Int32.ofNat j))) (.int ((zsB.getD 1 []).getD j 0)))) = true := by decide +kernel
theorem zfl_6_1 : ∀ r, r < 1 → decide (zFl[zps.getD 1 0 + 4 + zsL.getD 1 0 + r]? = some (Cond.not (Cond.eq (ztm (zinv.getD r 0)) (ztm 1)))) = true := by decide +kernel
theorem zfl_5_2 : ∀ j, j < zsL.getD 2 0 → decide (zFl[zps.getD 2 0 + 4 + j]? = some (Cond.eq (.elem (.field (ztm 2) "java/lang/String" "value" "[B") (.int (Int32.ofNat j))) (.int ((zsB.getD 2 []).getD j 0)))) = true := by decide +kernel
theorem zfl_6_2 : ∀ r, r < 2 → decide (zFl[zps.getD 2 0 + 4 + zsL.getD 2 0 + r]? = some (Cond.not (Cond.eq (ztm (zinv.getD r 0)) (ztm 2)))) = true := by decide +kernel
theorem zfl_5_3 : ∀ j, j < zsL.getD 3 0 → decide (zFl[zps.getD 3 0 + 4 + j]? = some (Cond.eq (.elem (.field (ztm 3) "java/lang/String" "value" "[B") (.int (Int32.ofNat j))) (.int ((zsB.getD 3 []).getD j 0)))) = true := by decide +kernel
theorem zfl_6_3 : ∀ r, r < 3 → decide (zFl[zps.getD 3 0 + 4 + zsL.getD 3 0 + r]? = some (Cond.not (Cond.eq (ztm (zinv.getD r 0)) (ztm 3)))) = true := by decide +kernel
theorem zfl_5_4 : ∀ j, j < zsL.getD 4 0 → decide (zFl[zps.getD 4 0 + 4 + j]? = some (Cond.eq (.elem (.field (ztm 4) "java/lang/String" "value" "[B") (.int (Int32.ofNat j))) (.int ((zsB.getD 4 []).getD j 0)))) = true := by decide +kernel
theorem zfl_6_4 : ∀ r, r < 4 → decide (zFl[zps.getD 4 0 + 4 + zsL.getD 4 0 + r]? = some (Cond.not (Cond.eq (ztm (zinv.getD r 0)) (ztm 4)))) = true := by decide +kernel
theorem zfl_5_5 : ∀ j, j < zsL.getD 5 0 → decide (zFl[zps.getD 5 0 + 4 + j]? = some (Cond.eq (.elem (.field (ztm 5) "java/lang/String" "value" "[B") (.int (Int32.ofNat j))) (.int ((zsB.getD 5 []).getD j 0)))) = true := by decide +kernel
theorem zfl_6_5 : ∀ r, r < 5 → decide (zFl[zps.getD 5 0 + 4 + zsL.getD 5 0 + r]? = some (Cond.not (Cond.eq (ztm (zinv.getD r 0)) (ztm 5)))) = true := by decide +kernel
theorem zfl_5_6 : ∀ j, j < zsL.getD 6 0 → decide (zFl[zps.getD 6 0 + 4 + j]? = some (Cond.eq (.elem (.field (ztm 6) "java/lang/String" "value" "[B") (.int (Int32.ofNat j))) (.int ((zsB.getD 6 []).getD j 0)))) = true := by decide +kernel
theorem zfl_6_6 : ∀ r, r < 6 → decide (zFl[zps.getD 6 0 + 4 + zsL.getD 6 0 + r]? = some (Cond.not (Cond.eq (ztm (zinv.getD r 0)) (ztm 6)))) = true := by decide +kernel
theorem zfl_5_7 : ∀ j, j < zsL.getD 7 0 → decide (zFl[zps.getD 7 0 + 4 + j]? = some (Cond.eq (.elem (.field (ztm 7) "java/lang/String" "value" "[B") (.int (Int32.ofNat j))) (.int ((zsB.getD 7 []).getD j 0)))) = true := by decide +kernel
theorem zfl_6_7 : ∀ r, r < 7 → decide (zFl[zps.getD 7 0 + 4 + zsL.getD 7 0 + r]? = some (Cond.not (Cond.eq (ztm (zinv.getD r 0)) (ztm 7)))) = true := by decide +kernel
theorem zfl_5_8 : ∀ j, j < zsL.getD 8 0 → decide (zFl[zps.getD 8 0 + 4 + j]? = some (Cond.eq (.elem (.field (ztm 8) "java/lang/String" "value" "[B") (.int (Int32.ofNat j))) (.int ((zsB.getD 8 []).getD j 0)))) = true := by decide +kernel
theorem zfl_6_8 : ∀ r, r < 8 → decide (zFl[zps.getD 8 0 + 4 + zsL.getD 8 0 + r]? = some (Cond.not (Cond.eq (ztm (zinv.getD r 0)) (ztm 8)))) = true := by decide +kernel
theorem zfl_5_9 : ∀ j, j < zsL.getD 9 0 → decide (zFl[zps.getD 9 0 + 4 + j]? = some (Cond.eq (.elem (.field (ztm 9) "java/lang/String" "value" "[B") (.int (Int32.ofNat j))) (.int ((zsB.getD 9 []).getD j 0)))) = true := by decide +kernel
theorem zfl_6_9 : ∀ r, r < 9 → decide (zFl[zps.getD 9 0 + 4 + zsL.getD 9 0 + r]? = some (Cond.not (Cond.eq (ztm (zinv.getD r 0)) (ztm 9)))) = true := by decide +kernel
theorem zfl_5_10 : ∀ j, j < zsL.getD 10 0 → decide (zFl[zps.getD 10 0 + 4 + j]? = some (Cond.eq (.elem (.field (ztm 10) "java/lang/String" "value" "[B") (.int (Int32.ofNat j))) (.int ((zsB.getD 10 []).getD j 0)))) = true := by decide +kernel
theorem zfl_6_10 : ∀ r, r < 10 → decide (zFl[zps.getD 10 0 + 4 + zsL.getD 10 0 + r]? = some (Cond.not (Cond.eq (ztm (zinv.getD r 0)) (ztm 10)))) = true := by decide +kernel
theorem zfl_5_11 : ∀ j, j < zsL.getD 11 0 → decide (zFl[zps.getD 11 0 + 4 + j]? = some (Cond.eq (.elem (.field (ztm 11) "java/lang/String" "value" "[B") (.int (Int32.ofNat j))) (.int ((zsB.getD 11 []).getD j 0)))) = true := by decide +kernel
theorem zfl_6_11 : ∀ r, r < 11 → decide (zFl[zps.getD 11 0 + 4 + zsL.getD 11 0 + r]? = some (Cond.not (Cond.eq (ztm (zinv.getD r 0)) (ztm 11)))) = true := by decide +kernel
theorem zfl_5_12 : ∀ j, j < zsL.getD 12 0 → decide (zFl[zps.getD 12 0 + 4 + j]? = some (Cond.eq (.elem (.field (ztm 12) "java/lang/String" "value" "[B") (.int (Int32.ofNat j))) (.int ((zsB.getD 12 []).getD j 0)))) = true := by decide +kernel
theorem zfl_6_12 : ∀ r, r < 15 → decide (zFl[zps.getD 12 0 + 4 + zsL.getD 12 0 + r]? = some (Cond.not (Cond.eq (ztm (zinv.getD r 0)) (ztm 12)))) = true := by decide +kernel
theorem zfl_5_13 : ∀ j, j < zsL.getD 13 0 → decide (zFl[zps.getD 13 0 + 4 + j]? = some (Cond.eq (.elem (.field (ztm 13) "java/lang/String" "value" "[B") (.int (Int32.ofNat j))) (.int ((zsB.getD 13 []).getD j 0)))) = true := by decide +kernel
theorem zfl_6_13 : ∀ r, r < 12 → decide (zFl[zps.getD 13 0 + 4 + zsL.getD 13 0 + r]? = some (Cond.not (Cond.eq (ztm (zinv.getD r 0)) (ztm 13)))) = true := by decide +kernel
theorem zfl_5_14 : ∀ j, j < zsL.getD 14 0 → decide (zFl[zps.getD 14 0 + 4 + j]? = some (Cond.eq (.elem (.field (ztm 14) "java/lang/String" "value" "[B") (.int (Int32.ofNat j))) (.int ((zsB.getD 14 []).getD j 0)))) = true := by decide +kernel
theorem zfl_6_14 : ∀ r, r < 13 → decide (zFl[zps.getD 14 0 + 4 + zsL.getD 14 0 + r]? = some (Cond.not (Cond.eq (ztm (zinv.getD r 0)) (ztm 14)))) = true := by decide +kernel
theorem zfl_5_15 : ∀ j, j < zsL.getD 15 0 → decide (zFl[zps.getD 15 0 + 4 + j]? = some (Cond.eq (.elem (.field (ztm 15) "java/lang/String" "value" "[B") (.int (Int32.ofNat j))) (.int ((zsB.getD 15 []).getD j 0)))) = true := by decide +kernel
theorem zfl_6_15 : ∀ r, r < 14 → decide (zFl[zps.getD 15 0 + 4 + zsL.getD 15 0 + r]? = some (Cond.not (Cond.eq (ztm (zinv.getD r 0)) (ztm 15)))) = true := by decide +kernel
theorem zfl_5 : ∀ i, i < 16 → ∀ j, j < zsL.getD i 0 → Cond.eq (.elem (.field (ztm i) "java/lang/String" "value" "[B") (.int (Int32.ofNat j))) (.int ((zsB.getD i []).getD j 0)) ∈ flatC (Jvm.Cond.and given_1 narrow_1) := fun i hi j hj => by
  match i, hi, hj with
  | 0, _, hj => exact zfm _ (zfl_5_0 j hj)
  | 1, _, hj => exact zfm _ (zfl_5_1 j hj)
  | 2, _, hj => exact zfm _ (zfl_5_2 j hj)
  | 3, _, hj => exact zfm _ (zfl_5_3 j hj)
  | 4, _, hj => exact zfm _ (zfl_5_4 j hj)
  | 5, _, hj => exact zfm _ (zfl_5_5 j hj)
  | 6, _, hj => exact zfm _ (zfl_5_6 j hj)
  | 7, _, hj => exact zfm _ (zfl_5_7 j hj)
  | 8, _, hj => exact zfm _ (zfl_5_8 j hj)
  | 9, _, hj => exact zfm _ (zfl_5_9 j hj)
  | 10, _, hj => exact zfm _ (zfl_5_10 j hj)
  | 11, _, hj => exact zfm _ (zfl_5_11 j hj)
  | 12, _, hj => exact zfm _ (zfl_5_12 j hj)
  | 13, _, hj => exact zfm _ (zfl_5_13 j hj)
  | 14, _, hj => exact zfm _ (zfl_5_14 j hj)
  | 15, _, hj => exact zfm _ (zfl_5_15 j hj)
  | k + 16, hi, _ => exact absurd hi (by omega)
theorem zrk_inv : ∀ j, j < 16 → zinv.getD (zrk.getD j 0) 0 = j := by decide
theorem zrk_ne : ∀ i, i < 16 → ∀ j, j < 16 → i ≠ j → zrk.getD i 0 ≠ zrk.getD j 0 := by decide
theorem zfl_6a : ∀ i, i < 16 → ∀ j, j < 16 → zrk.getD j 0 < zrk.getD i 0 → Cond.not (Cond.eq (ztm j) (ztm i)) ∈ flatC (Jvm.Cond.and given_1 narrow_1) := fun i hi j hj hr => by
  have e := zrk_inv j hj
  match i, hi, hr with
  | 0, _, hr =>
    have h := zfm _ (zfl_6_0 (zrk.getD j 0) hr)
    rw [e] at h
    exact h
  | 1, _, hr =>
    have h := zfm _ (zfl_6_1 (zrk.getD j 0) hr)
    rw [e] at h
    exact h
  | 2, _, hr =>
    have h := zfm _ (zfl_6_2 (zrk.getD j 0) hr)
    rw [e] at h
    exact h
  | 3, _, hr =>
    have h := zfm _ (zfl_6_3 (zrk.getD j 0) hr)
    rw [e] at h
    exact h
  | 4, _, hr =>
    have h := zfm _ (zfl_6_4 (zrk.getD j 0) hr)
    rw [e] at h
    exact h
  | 5, _, hr =>
    have h := zfm _ (zfl_6_5 (zrk.getD j 0) hr)
    rw [e] at h
    exact h
  | 6, _, hr =>
    have h := zfm _ (zfl_6_6 (zrk.getD j 0) hr)
    rw [e] at h
    exact h
  | 7, _, hr =>
    have h := zfm _ (zfl_6_7 (zrk.getD j 0) hr)
    rw [e] at h
    exact h
  | 8, _, hr =>
    have h := zfm _ (zfl_6_8 (zrk.getD j 0) hr)
    rw [e] at h
    exact h
  | 9, _, hr =>
    have h := zfm _ (zfl_6_9 (zrk.getD j 0) hr)
    rw [e] at h
    exact h
  | 10, _, hr =>
    have h := zfm _ (zfl_6_10 (zrk.getD j 0) hr)
    rw [e] at h
    exact h
  | 11, _, hr =>
    have h := zfm _ (zfl_6_11 (zrk.getD j 0) hr)
    rw [e] at h
    exact h
  | 12, _, hr =>
    have h := zfm _ (zfl_6_12 (zrk.getD j 0) hr)
    rw [e] at h
    exact h
  | 13, _, hr =>
    have h := zfm _ (zfl_6_13 (zrk.getD j 0) hr)
    rw [e] at h
    exact h
  | 14, _, hr =>
    have h := zfm _ (zfl_6_14 (zrk.getD j 0) hr)
    rw [e] at h
    exact h
  | 15, _, hr =>
    have h := zfm _ (zfl_6_15 (zrk.getD j 0) hr)
    rw [e] at h
    exact h
  | k + 16, hi, _ => exact absurd hi (by omega)
theorem zfl_6 : ∀ i, i < 16 → ∀ j, j < 16 → i ≠ j → Cond.not (Cond.eq (ztm i) (ztm j)) ∈ flatC (Jvm.Cond.and given_1 narrow_1) ∨ Cond.not (Cond.eq (ztm j) (ztm i)) ∈ flatC (Jvm.Cond.and given_1 narrow_1) := fun i hi j hj hne => by
  rcases Nat.lt_or_ge (zrk.getD i 0) (zrk.getD j 0) with h | h
  · exact Or.inl (zfl_6a j hj i hi h)
  · exact Or.inr (zfl_6a i hi j hj (Nat.lt_of_le_of_ne h (fun q => zrk_ne i hi j hj hne q.symm)))
theorem zfl_7 : ∀ i, i < 3 → Cond.arrayOf (.static RX7 (zsN i) "[I") .int ∈ flatC (Jvm.Cond.and given_1 narrow_1) := fun i hi => zfm ([20, 30, 5].getD i 0) ((by decide +kernel : ∀ i, i < 3 → decide (zFl[[20, 30, 5].getD i 0]? = some (Cond.arrayOf (.static RX7 (zsN i) "[I") .int)) = true) i hi)
theorem zfl_8 : ∀ i, i < 3 → Cond.eq (.length (.static RX7 (zsN i) "[I")) (.int (Int32.ofNat 7)) ∈ flatC (Jvm.Cond.and given_1 narrow_1) := fun i hi => zfm ([21, 31, 6].getD i 0) ((by decide +kernel : ∀ i, i < 3 → decide (zFl[[21, 31, 6].getD i 0]? = some (Cond.eq (.length (.static RX7 (zsN i) "[I")) (.int (Int32.ofNat 7)))) = true) i hi)
theorem zfl_9 : ∀ i, i < 3 → ∀ j, j < 7 → Cond.eq (.elem (.static RX7 (zsN i) "[I") (.int (Int32.ofNat j))) (.int (zi (zsV i j))) ∈ flatC (Jvm.Cond.and given_1 narrow_1) := fun i hi j hj => zfm ([22, 32, 7].getD i 0 + j) ((by decide +kernel : ∀ i, i < 3 → ∀ j, j < 7 → decide (zFl[[22, 32, 7].getD i 0 + j]? = some (Cond.eq (.elem (.static RX7 (zsN i) "[I") (.int (Int32.ofNat j))) (.int (zi (zsV i j))))) = true) i hi j hj)
theorem zfl_10 : Cond.eq (.static "java/lang/String" "COMPACT_STRINGS" "Z") (.int 1) ∈ flatC (Jvm.Cond.and given_1 narrow_1) := zfm 14 (by decide +kernel)
theorem zfl_11 : Cond.isRef (.static "jdk/internal/util/Preconditions" "SIOOBE_FORMATTER" "Ljava/util/function/BiFunction;") ∈ flatC (Jvm.Cond.and given_1 narrow_1) := zfm 15 (by decide +kernel)
theorem zfl_12 : Cond.isRef (.static Bundle.tN "UNASSIGNED_STACK" Bundle.steD) ∈ flatC (Jvm.Cond.and given_1 narrow_1) := zfm 39 (by decide +kernel)
theorem zfl_13 : Cond.isRef (.static Bundle.tN "SUPPRESSED_SENTINEL" Bundle.listD) ∈ flatC (Jvm.Cond.and given_1 narrow_1) := zfm 40 (by decide +kernel)
theorem zlw_1 : ∀ i, i < 3 → Cond.laysStatic RX7 (zsN i) "[I" ∈ lw_tbl := fun i hi => by
  match i, hi with
  | 0, _ => exact lwm 613 (by decide +kernel)
  | 1, _ => exact lwm 615 (by decide +kernel)
  | 2, _ => exact lwm 237 (by decide +kernel)
theorem zlw_2 {s : State} {args : Array Value} (hts : ∀ w ∈ lw_tbl, w.before args s = true) : ∀ q ∈ zw_NM, va_Nw (.methodLinkNest q.1 q.2.1 q.2.2.1 q.2.2.2) s := by
  intro q hq
  simp only [zw_NM, List.mem_cons, List.not_mem_nil, or_false] at hq
  rcases hq with rfl | rfl | rfl | rfl | rfl | rfl | rfl | rfl
  · exact va_Nw.of rfl (hts _ (lwm 282 (by decide +kernel)))
  · exact va_Nw.of rfl (hts _ (lwm 302 (by decide +kernel)))
  · exact va_Nw.of rfl (hts _ (lwm 308 (by decide +kernel)))
  · exact va_Nw.of rfl (hts _ (lwm 493 (by decide +kernel)))
  · exact va_Nw.of rfl (hts _ (lwm 699 (by decide +kernel)))
  · exact va_Nw.of rfl (hts _ (lwm 111 (by decide +kernel)))
  · exact va_Nw.of rfl (hts _ (lwm 151 (by decide +kernel)))
  · exact va_Nw.of rfl (hts _ (lwm 173 (by decide +kernel)))
theorem zlw_3 {s : State} {args : Array Value} (hts : ∀ w ∈ lw_tbl, w.before args s = true) : ∀ q ∈ zw_NF, va_Nw (.fieldLinkNest q.1 q.2.1 q.2.2.1 q.2.2.2.1 q.2.2.2.2.1 q.2.2.2.2.2) s := by
  intro q hq
  simp only [zw_NF, List.mem_cons, List.not_mem_nil, or_false] at hq
  rcases hq with rfl | rfl | rfl
  · exact va_Nw.of rfl (hts _ (lwm 612 (by decide +kernel)))
  · exact va_Nw.of rfl (hts _ (lwm 614 (by decide +kernel)))
  · exact va_Nw.of rfl (hts _ (lwm 236 (by decide +kernel)))
theorem zlw_4 {s : State} {args : Array Value} (hts : ∀ w ∈ lw_tbl, w.before args s = true) : ∀ q ∈ zw_DC, va_Nw (.declares q) s := by
  intro q hq
  simp only [zw_DC, List.mem_cons, List.not_mem_nil, or_false] at hq
  rcases hq with rfl | rfl | rfl
  · exact va_Nw.of rfl (hts _ (lwm 849 (by decide +kernel)))
  · exact va_Nw.of rfl (hts _ (lwm 851 (by decide +kernel)))
  · exact va_Nw.of rfl (hts _ (lwm 853 (by decide +kernel)))
theorem zlw_5 : ∀ q ∈ zw_SR, Cond.stringRef q.1 q.2.1 q.2.2.2 ∈ lw_tbl ∧ q.2.2.1 < 16 ∧ ztm q.2.2.1 = .string q.1 q.2.1 := by
  intro q hq
  simp only [zw_SR, List.mem_cons, List.not_mem_nil, or_false] at hq
  rcases hq with rfl | rfl | rfl | rfl | rfl | rfl | rfl | rfl | rfl | rfl | rfl | rfl | rfl | rfl | rfl | rfl
  · exact ⟨lwm 423 (by decide +kernel), by decide, rfl⟩
  · exact ⟨lwm 500 (by decide +kernel), by decide, rfl⟩
  · exact ⟨lwm 517 (by decide +kernel), by decide, rfl⟩
  · exact ⟨lwm 518 (by decide +kernel), by decide, rfl⟩
  · exact ⟨lwm 519 (by decide +kernel), by decide, rfl⟩
  · exact ⟨lwm 527 (by decide +kernel), by decide, rfl⟩
  · exact ⟨lwm 528 (by decide +kernel), by decide, rfl⟩
  · exact ⟨lwm 529 (by decide +kernel), by decide, rfl⟩
  · exact ⟨lwm 530 (by decide +kernel), by decide, rfl⟩
  · exact ⟨lwm 531 (by decide +kernel), by decide, rfl⟩
  · exact ⟨lwm 532 (by decide +kernel), by decide, rfl⟩
  · exact ⟨lwm 533 (by decide +kernel), by decide, rfl⟩
  · exact ⟨lwm 1311 (by decide +kernel), by decide, rfl⟩
  · exact ⟨lwm 884 (by decide +kernel), by decide, rfl⟩
  · exact ⟨lwm 952 (by decide +kernel), by decide, rfl⟩
  · exact ⟨lwm 1038 (by decide +kernel), by decide, rfl⟩
set_option maxRecDepth 4096 in
theorem w_start {s : State} {b : Nat} (hts : ∀ w ∈ lw_tbl, w.before #[Value.ref b] s = true) (hgv : (Jvm.Cond.and given_1 narrow_1).before #[Value.ref b] s = true) :
    ∃ w : zW, zwB w = s.heap.size ∧ zwL w = (List.range 553).map (fun i => s.heap.size + i) ∧ (∀ a, zwK w a = if s.heap.size ≤ a then gK (a - s.heap.size) else 31) ∧ zKn w s ∧ zAn w s := by
  have hs := flat_of_before _ hgv
  have hA : ∀ a : Nat, a < s.heap.size → ¬ (fun q : Nat => s.heap.size ≤ q) a := fun a h => Nat.not_le.mpr h
  obtain ⟨dC, hdC⟩ := Classical.axiomOfChoice (zcls_ex hts)
  obtain ⟨aC, haC⟩ := Classical.axiomOfChoice (zarr_ex hts)
  obtain ⟨adK, adV, hS, hev⟩ := vk_Sof (args := #[Value.ref b]) (s := s) (N := 16) (tm := ztm) (len := zsL) (byt := zsB) (A := fun q => s.heap.size ≤ q) (by decide +kernel)
    (fun i hi => hs _ (zfl_1 i hi)) (fun i hi => hs _ (zfl_2 i hi)) (fun i hi => hs _ (zfl_3 i hi)) (fun i hi => hs _ (zfl_4 i hi)) (fun i hi j hj => hs _ (zfl_5 i hi j hj)) (fun i j hi hj hne => (zfl_6 i hi j hj hne).imp (hs _) (hs _)) hA
  have hst : ∀ i : Nat, ∃ t : Nat, i < 3 → va_Z RX7 (zsN i) "[I" (.ref t) (fun q => s.heap.size ≤ q) s s.heap ∧ va_T .int t 7 (fun j => .int (zi (zsV i j))) (fun q => s.heap.size ≤ q) s s.heap := by
    intro i
    by_cases hi : i < 3
    · obtain ⟨t, ht, hT⟩ := va_Tof (args := #[Value.ref b]) (s := s) (tm := .static RX7 (zsN i) "[I") (ty := .int) (N := 7) (f := fun j => .int (zi (zsV i j))) (A := fun q => s.heap.size ≤ q) (by decide) (hs _ (zfl_7 i hi)) (va_eqt (hs _ (zfl_8 i hi))) (fun j hj => va_eqt (hs _ (zfl_9 i hi j hj))) hA
      exact ⟨t, fun _ => ⟨va_Zof (hts _ (zlw_1 i hi)) (hts _ (lwm 70 (by decide +kernel))) ht hA, hT⟩⟩
    · exact ⟨0, fun h => absurd h hi⟩
  obtain ⟨st, hst⟩ := Classical.axiomOfChoice hst
  refine ⟨((fun c => (dC c).1, fun c => (dC c).2), aC, s.heap.size, (List.range 553).map (fun i => s.heap.size + i), (fun a => if s.heap.size ≤ a then gK (a - s.heap.size) else 31), (fun i => if i < 16 then adK i else if i < 20 then 0 else if i < 23 then st (i - 20) else if i < 40 then 0 else adV (i - 40))), rfl, rfl, fun _ => rfl, ?_, ?_⟩
  · have hk0 : ∀ a : Nat, a < s.heap.size → (if s.heap.size ≤ a then gK (a - s.heap.size) else 31) = 31 := fun a ha => if_neg (by omega)
    have eK : ∀ i, i < 16 → (if i < 16 then adK i else if i < 20 then 0 else if i < 23 then st (i - 20) else if i < 40 then 0 else adV (i - 40)) = adK i := fun i hi => if_pos hi
    have eV : ∀ i, i < 16 → (if 40 + i < 16 then adK (40 + i) else if 40 + i < 20 then 0 else if 40 + i < 23 then st (40 + i - 20) else if 40 + i < 40 then 0 else adV (40 + i - 40)) = adV i := fun i hi => by
      rw [if_neg (by omega), if_neg (by omega), if_neg (by omega), if_neg (by omega), Nat.add_sub_cancel_left]
    have eT : ∀ i, i < 3 → (if 20 + i < 16 then adK (20 + i) else if 20 + i < 20 then 0 else if 20 + i < 23 then st (20 + i - 20) else if 20 + i < 40 then 0 else adV (20 + i - 40)) = st i := fun i hi => by
      rw [if_neg (by omega), if_neg (by omega), if_pos (by omega), Nat.add_sub_cancel_left]
    refine ⟨⟨fun c q hq => hdC c q hq, fun k q hq => ?_⟩, ⟨zlw_2 hts, zlw_3 hts, fun q hq => ?_, zlw_4 hts, va_Nw.of rfl (hts _ (lwm 847 (by decide +kernel)))⟩, ⟨fun i hi => ?_, va_Zof (hts _ (lwm 437 (by decide +kernel))) (hts _ (lwm 81 (by decide +kernel))) (va_eqt (hs _ zfl_10)) hA, ⟨fun i hi => ?_, fun i j hi hj he => ?_⟩, fun i hi => ⟨?_, ?_⟩, va_Zqof (hts _ (lwm 453 (by decide +kernel))) (hts _ (lwm 83 (by decide +kernel))) (hs _ zfl_11) hA, vx_Zqof (hts _ (lwm 872 (by decide +kernel))) (hts _ (lwm 85 (by decide +kernel))) (hs _ zfl_12) hA, vx_Zqof (hts _ (lwm 874 (by decide +kernel))) (hts _ (lwm 85 (by decide +kernel))) (hs _ zfl_13) hA⟩, Nat.le_refl _⟩
    · unfold ztys at hq
      rw [List.getElem?_map] at hq
      by_cases hk : k < 13
      · rw [List.getElem?_range hk] at hq
        cases hq
        have := haC (k + 9) (by omega) (by omega)
        exact ⟨this.1, this.2.1⟩
      · rw [List.getElem?_eq_none (by rw [List.length_range]; omega)] at hq
        cases hq
    · obtain ⟨h1, h2, h3⟩ := zlw_5 q hq
      refine vk_R.of (hts _ h1) ?_
      have hh := hev q.2.2.1 h2
      rw [h3] at hh
      refine hh.trans ?_
      show some (Value.ref (adK q.2.2.1)) = some (Value.ref (if q.2.2.1 < 16 then adK q.2.2.1 else if q.2.2.1 < 20 then 0 else if q.2.2.1 < 23 then st (q.2.2.1 - 20) else if q.2.2.1 < 40 then 0 else adV (q.2.2.1 - 40)))
      rw [if_pos h2]
    · have h1 := hst i hi
      refine ⟨?_, ?_, ?_⟩
      · show (if s.heap.size ≤ (if 20 + i < 16 then adK (20 + i) else if 20 + i < 20 then 0 else if 20 + i < 23 then st (20 + i - 20) else if 20 + i < 40 then 0 else adV (20 + i - 40)) then gK ((if 20 + i < 16 then adK (20 + i) else if 20 + i < 20 then 0 else if 20 + i < 23 then st (20 + i - 20) else if 20 + i < 40 then 0 else adV (20 + i - 40)) - s.heap.size) else 31) = 31
        rw [eT i hi]
        obtain ⟨cell, g1, -⟩ := h1.2
        exact hk0 _ (Array.getElem?_eq_some_iff.mp g1).1
      · show va_Z _ _ _ (.ref (if 20 + i < 16 then adK (20 + i) else _)) _ _ _
        rw [eT i hi]
        exact h1.1
      · show va_T _ (if 20 + i < 16 then adK (20 + i) else _) _ _ _ _ _
        rw [eT i hi]
        exact h1.2
    · obtain ⟨g1, g2, g3, g4⟩ := hS.1 i hi
      refine ⟨?_, ?_, ?_, ?_⟩
      · show va_O _ (if i < 16 then adK i else _) _ _ _
        rw [eK i hi]
        exact g1
      · show va_OF _ _ _ _ (if i < 16 then adK i else _) _ _ _
        rw [eK i hi]
        exact g2
      · show va_OF _ _ _ (.ref (if 40 + i < 16 then adK (40 + i) else _)) (if i < 16 then adK i else _) _ _ _
        rw [eK i hi, eV i hi]
        exact g3
      · show va_T _ (if 40 + i < 16 then adK (40 + i) else _) _ _ _ _ _
        rw [eV i hi]
        exact g4
    · have he' : (if i < 16 then adK i else if i < 20 then 0 else if i < 23 then st (i - 20) else if i < 40 then 0 else adV (i - 40)) = (if j < 16 then adK j else if j < 20 then 0 else if j < 23 then st (j - 20) else if j < 40 then 0 else adV (j - 40)) := he
      rw [eK i hi, eK j hj] at he'
      exact hS.2 i j hi hj he'
    · show (if s.heap.size ≤ (if i < 16 then adK i else if i < 20 then 0 else if i < 23 then st (i - 20) else if i < 40 then 0 else adV (i - 40)) then gK ((if i < 16 then adK i else if i < 20 then 0 else if i < 23 then st (i - 20) else if i < 40 then 0 else adV (i - 40)) - s.heap.size) else 31) = 31
      rw [eK i hi]
      obtain ⟨cell, g1, -⟩ := (hS.1 i hi).1
      exact hk0 _ (Array.getElem?_eq_some_iff.mp g1).1
    · show (if s.heap.size ≤ (if 40 + i < 16 then adK (40 + i) else if 40 + i < 20 then 0 else if 40 + i < 23 then st (40 + i - 20) else if 40 + i < 40 then 0 else adV (40 + i - 40)) then gK ((if 40 + i < 16 then adK (40 + i) else if 40 + i < 20 then 0 else if 40 + i < 23 then st (40 + i - 20) else if 40 + i < 40 then 0 else adV (40 + i - 40)) - s.heap.size) else 31) = 31
      rw [eV i hi]
      obtain ⟨cell, g1, -⟩ := (hS.1 i hi).2.2.2
      exact hk0 _ (Array.getElem?_eq_some_iff.mp g1).1
  · exact ⟨fun k h1 h2 => (haC k h1 h2).2.2, va_AO.of (hts _ (lwm 105 (by decide +kernel))), va_AO.of (hts _ (lwm 107 (by decide +kernel))), va_AO.of (hts _ (lwm 109 (by decide +kernel))), va_AO.of (hts _ (lwm 290 (by decide +kernel)))⟩
