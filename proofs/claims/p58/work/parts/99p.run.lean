/-! The law from its entry to its end. -/
section RUN
variable {w : zW} {p : Program} {l : Launch} {e : Env} {R : Room} {s : State} {m : MethodId} {args : Array Value} {below : List Frame} {meth : Method} {c : Code} {Q : State → Prop} {B : Nat}
theorem zAll_A {a : Nat} : zA (z7 w B (fun _ => True)) a ↔ B ≤ a := ⟨fun h => h.1, fun h => ⟨h, trivial⟩⟩
theorem law_y (C : zC w p s m args c 4 cL_law RL) (hX : yX w s s.heap) (hA : ∀ q, zA w q ↔ B ≤ q) (hsz : s.heap.size = B) (hb : zwS w 30 < B) (hR : 20 ≤ R.frames ∧ 1000 ≤ R.locals ∧ 1041 ≤ R.cells ∧ 810020 ≤ R.slots)
    (kk : ∀ (H : Heap) (locs : List Loc) (ls : Array Slot), va_S (fun q => B ≤ q) s.heap H locs → W p l e R s m args below meth c H locs 1041 810020 Q (F0 m 219 ls [.int 1])) :
    yS w p l e R s m args below meth c 4 0 0 Q 0 [some (.inr (30, zwS w 30)), none, none, none] [] (fun H => H.size = B) := by
  obtain ⟨hs, h2, a0, a1, a2, a3, v, a4, a5⟩ := law_load B w
  obtain ⟨hR1, hR2, hR3, hR4⟩ := hR
  refine y_aload_n C dL_law_0 rfl ?_
  refine y_callS (wc := w) (k := 1) (As := [.inr (30, zwS w 30)]) (rest := []) (Gc := fun H => H.size = B) C dL_law_1 msL_227 (fun q h => h) (c_L_exchange w l hA hs h2 a0 a1 a2) (fun H locs hG hS U hU hW => ⟨?_, ?_, ?_⟩) rfl ⟨by omega, by omega⟩ ⟨by omega, by omega⟩ ⟨rfl, Nat.le_of_ble_eq_true rfl⟩ (fun r G1 hp => ?_)
  · exact yKn.warm hW hS hU ⟨C.2.2.2.2.2, hX⟩
  · intro a ha
    exact (hA a).mpr (by rw [hU, hG] at ha; exact ha)
  · show U.heap.size = B
    rw [hU]
    exact hG
  obtain ⟨rfl, hTy, hRg, rfl⟩ := hp
  refine y_to (G' := yL w (PL (z7 w B (yUp B)) h2)) (fun H h => h.1) ?_
  refine y_astore_n C dL_law_4 (by decide) ?_
  refine y_aload_n C dL_law_5 rfl ?_
  refine y_ifnonnull C dL_law_6 (tgt := 11) (by decide) ?_
  intro H locs ls hG hS hl hk ho
  have hP : yPool w (z7 w B (yUp B)) B := z7_pool ⟨rfl, rfl, fun _ _ _ => rfl, rfl, rfl⟩ ⟨C.2.2.2.2.2, hX⟩ hsz (fun q hq _ => (hA q).mpr hq)
  have hRel := PL_rel hP hTy hRg hG
  have hRel' : zRel (z7 w B (fun _ => True)) h2 H := ⟨hRel.1, ⟨hRel.2.1.1, fun k q hq => ⟨(hRel.2.1.2 k q hq).1, trivial⟩⟩, hRel.2.2.1, hRel.2.2.2.1, hRel.2.2.2.2⟩
  have hS' : va_S (zA (z7 w B (fun _ => True))) s.heap H locs := ⟨hS.1, fun q z1 z2 => hS.2.1 q z1 (fun z => z2 (zAll_A.mpr ((hA q).mp z))), fun q hq => zAll_A.mpr ((hA _).mp (hS.2.2 q hq))⟩
  have hKn : zKn (z7 w B (fun _ => True)) s := z7_Kn (w := w) (s0 := s) ⟨rfl, rfl, fun _ _ _ => rfl, rfl, rfl⟩ ⟨C.2.2.2.2.2, hX⟩ hsz (fun q hq _ => (hA q).mpr hq) (by omega) ⟨C.2.2.2.2.2, hX⟩
  have C' : zC (z7 w B (fun _ => True)) p s m args c 4 cL_law RL := ⟨C.1, C.2.1, C.2.2.1, C.2.2.2.1, C.2.2.2.2.1, hKn⟩
  have kS : zwK (z7 w B (fun _ => True)) (zwS w 30) = 31 := if_neg (by omega)
  have kB : zwK (z7 w B (fun _ => True)) B = 8 := (if_pos (Nat.le_refl B)).trans (by rw [Nat.sub_self]; rfl)
  refine b_all C' (cells := 0 + 1041) (slots := 0 + 810020) (v2 := none) (v3 := none) ⟨by omega, by omega⟩ ⟨by omega, by omega⟩ a3 (v := v) a4 a5 (fun h1 k v3 => ?_) H locs ls hRel' hS' hl (fun v hv => by cases hv) (fun v hv => ?_)
  · intro H1 locs1 ls1 _ hS1 _ _ _
    exact kk H1 locs1 ls1 ⟨hS1.1, fun q z1 z2 => hS1.2.1 q z1 (fun z => z2 (zAll_A.mp z)), fun q hq => zAll_A.mp (hS1.2.2 q hq)⟩
  · simp only [List.mem_cons, List.not_mem_nil, or_false, Option.some.injEq, reduceCtorEq] at hv
    rcases hv with rfl | rfl
    · exact kS
    · exact kB
end RUN
