/-! The world at the law's entry, out of the words of the tables and of what is given of the start. -/
theorem lwm (i : Nat) {x : Cond} (h : decide (lw_tbl[i]? = some x) = true) : x ∈ lw_tbl := List.mem_of_getElem? (of_decide_eq_true h)
theorem zw_lw {x : Cond} (h : x ∈ zw_T) : x ∈ lw_tbl := (List.mem_filter.mp h).1
/-- a private method of a class above, from the words that tell of it -/
theorem sel_priv {C : String} {y : MethodName} {s : State} {args : Array Value} {n : Nat} (hy : y.cls ≠ "java/lang/invoke/MethodHandle" ∧ y.cls ≠ "java/lang/invoke/VarHandle") (hins : (Cond.instantiable C n).before args s = true) (hsame : (Cond.sameMethod y.cls y.cls y.name y.desc).before args s = true) (hpriv : (Cond.privateMethod y).before args s = true) (hinst : (Cond.instanceMethod y).before args s = true) :
    (Cond.selects C y y).before args s = true := by
  obtain ⟨c, k, hc, hk, -, -, -, -⟩ := Cond.instantiable_spec hins
  obtain ⟨mk, methM, hnamed, hmethM, -, -⟩ := Cond.instanceMethod_spec hinst
  have hfound : s.methodFound? y.cls y.name y.desc = some mk := State.methodFound?_of_named hnamed hy
  obtain ⟨-, k2, hk2, hni⟩ := Cond.sameMethod_spec (findClass_of_methodNamed hnamed) hfound hsame
  have hsel : selectMethod {} s.vm c mk = .method mk := selectMethod_private hmethM (Cond.privateMethod_at hpriv mk methM hnamed hmethM)
  simp only [Cond.before, Cond.holds, Cond.value, hc, hfound, hnamed, hsel, hk2]
  simp; exact hni
theorem vk_congr {N : Nat} {len : List Nat} {byt : List (List Int32)} {a a' v v' : Nat → Nat} {A : Nat → Prop} {U : State} {H : Heap} (ha : ∀ i, i < N → a' i = a i) (hv : ∀ i, i < N → v' i = v i) (h : vk_S N len byt a v A U H) : vk_S N len byt a' v' A U H := by
  refine ⟨fun i hi => ?_, fun i j hi hj e => h.2 i j hi hj ?_⟩
  · rw [ha i hi, hv i hi]
    exact h.1 i hi
  · rw [← ha i hi, ← ha j hj]
    exact e
theorem ofNat_20 : ∀ a, a < 20 → ∀ b, b < 20 → Int32.ofNat a = Int32.ofNat b → a = b := by decide +kernel
/-- string constants with different letters are different -/
theorem strs_of {args : Array Value} {s : State} {N : Nat} {tm : Nat → Term} {len : List Nat} {byt : List (List Int32)} {A : Nat → Prop} (hN : ∀ i : Nat, i < N → len.getD i 0 < 20) (hex : ∀ i : Nat, i < N → (Cond.exactly (tm i) "java/lang/String").before args s = true) (hco : ∀ i : Nat, i < N → (Cond.eq (.field (tm i) "java/lang/String" "coder" "B") (.int 0)).before args s = true)
    (har : ∀ i : Nat, i < N → (Cond.arrayOf (.field (tm i) "java/lang/String" "value" "[B") .byte).before args s = true) (hle : ∀ i : Nat, i < N → (Cond.eq (.length (.field (tm i) "java/lang/String" "value" "[B")) (.int (Int32.ofNat (len.getD i 0)))).before args s = true)
    (hel : ∀ i : Nat, i < N → ∀ j : Nat, j < len.getD i 0 → (Cond.eq (.elem (.field (tm i) "java/lang/String" "value" "[B") (.int (Int32.ofNat j))) (.int ((byt.getD i []).getD j 0))).before args s = true)
    (hd : ∀ i : Nat, i < N → ∀ j : Nat, j < N → len.getD i 0 = len.getD j 0 → (∀ k, k < len.getD i 0 → (byt.getD i []).getD k 0 = (byt.getD j []).getD k 0) → i = j) (hA : ∀ a : Nat, a < s.heap.size → ¬ A a) :
    ∃ adK adV : Nat → Nat, vk_S N len byt adK adV A s s.heap ∧ ∀ i : Nat, i < N → (tm i).eval args s none [] s = some (.ref (adK i)) := by
  have h0 : ∀ i : Nat, ∃ q : Nat × Nat, i < N → (tm i).eval args s none [] s = some (.ref q.1) ∧ va_O "java/lang/String" q.1 A s s.heap ∧ va_OF "java/lang/String" "coder" "B" (.int 0) q.1 A s s.heap ∧ va_OF "java/lang/String" "value" "[B" (.ref q.2) q.1 A s s.heap ∧ va_T .byte q.2 (len.getD i 0) (fun j => .int ((byt.getD i []).getD j 0)) A s s.heap := by
    intro i
    by_cases hi : i < N
    · have e0 : ∀ k : Nat, k < 1 → k = 0 := fun k hk => by omega
      obtain ⟨aK, aV, hS, hev⟩ := vk_Sof (args := args) (s := s) (N := 1) (tm := fun _ => tm i) (len := [len.getD i 0]) (byt := [byt.getD i []]) (A := A) (fun k hk => by rw [e0 k hk]; have := hN i hi; show len.getD i 0 < 2 ^ 31; omega) (fun k hk => hex i hi) (fun k hk => hco i hi) (fun k hk => har i hi) (fun k hk => by rw [e0 k hk]; exact hle i hi) (fun k hk j hj => by rw [e0 k hk] at hj ⊢; exact hel i hi j hj) (fun a b ha hb hne => absurd ((e0 a ha).trans (e0 b hb).symm) hne) hA
      exact ⟨(aK 0, aV 0), fun _ => ⟨hev 0 (by decide), hS.1 0 (by decide)⟩⟩
    · exact ⟨(0, 0), fun h => absurd h hi⟩
  obtain ⟨ad, had⟩ := Classical.axiomOfChoice h0
  refine ⟨fun i => (ad i).1, fun i => (ad i).2, ⟨fun i hi => (had i hi).2, fun i j hi hj e => ?_⟩, fun i hi => (had i hi).1⟩
  have e' : (ad i).1 = (ad j).1 := e
  obtain ⟨-, -, -, ⟨cf, k, fi, f, cell, f1, -, f3, -, f5, -⟩, ⟨c1, t1, -, -, t4, t5, t6, -⟩⟩ := had i hi
  obtain ⟨-, -, -, ⟨cf', k', fi', f', cell', g1, -, g3, -, g5, -⟩, ⟨c2, u1, -, -, u4, u5, u6, -⟩⟩ := had j hj
  rw [f1] at g1
  cases g1
  rw [e', g3] at f3
  cases f3
  rw [f5] at g5
  have eV : (ad i).2 = (ad j).2 := by
    injection g5 with g5
    injection g5
  rw [eV, u1] at t1
  cases t1
  have el : len.getD i 0 = len.getD j 0 := ofNat_20 _ (hN i hi) _ (hN j hj) (t5.symm.trans u5)
  refine hd i hi j hj el (fun k hk => ?_)
  have a1 := t6 k hk
  have a2 := u6 k (by omega)
  rw [a1] at a2
  injection a2 with a2
  injection a2
def zFl : List Cond := flatC (Jvm.Cond.and given_1 narrow_1)
theorem zfm (i : Nat) {x : Cond} (h : decide (zFl[i]? = some x) = true) : x ∈ flatC (Jvm.Cond.and given_1 narrow_1) := List.mem_of_getElem? (of_decide_eq_true h)
def zpS : List (String × Nat) := [(RX2, 55), (RX2, 64), (RX2, 69), (RX2, 74), (RX2, 79), (RX2, 170), (RX2, 172), (RX2, 174), (RX2, 176), (RX2, 178), (RX2, 180), (RX2, 181), (RL, 60), (RX7, 277), (RX7, 282), (RX7, 284)]
def zpY : List (String × Nat) := [(RL, 21), (RL, 65), (RL, 73), (RL, 77), (RL, 82), (RL, 84), (RL, 86), (RL, 98), (RL, 100), (RL, 114), (RL, 119), (RL, 60)]
def ztm (L : List (String × Nat)) (i : Nat) : Term := .string (L.getD i (RX2, 0)).1 (L.getD i (RX2, 0)).2
def zps : List Nat := [439, 451, 462, 470, 478, 485, 495, 504, 517, 529, 538, 546, 402, 291, 310, 554]
def zpy : List Nat := [407, 326, 339, 355, 370, 385, 390, 412, 417, 421, 430, 402]
theorem zs_1 : ∀ i, i < 16 → Cond.exactly (ztm zpS i) "java/lang/String" ∈ flatC (Jvm.Cond.and given_1 narrow_1) := fun i hi => zfm (zps.getD i 0) ((by decide +kernel : ∀ i, i < 16 → decide (zFl[zps.getD i 0]? = some (Cond.exactly (ztm zpS i) "java/lang/String")) = true) i hi)
theorem zs_2 : ∀ i, i < 16 → Cond.eq (.field (ztm zpS i) "java/lang/String" "coder" "B") (.int 0) ∈ flatC (Jvm.Cond.and given_1 narrow_1) := fun i hi => zfm (zps.getD i 0 + 1) ((by decide +kernel : ∀ i, i < 16 → decide (zFl[zps.getD i 0 + 1]? = some (Cond.eq (.field (ztm zpS i) "java/lang/String" "coder" "B") (.int 0))) = true) i hi)
theorem zs_3 : ∀ i, i < 16 → Cond.arrayOf (.field (ztm zpS i) "java/lang/String" "value" "[B") .byte ∈ flatC (Jvm.Cond.and given_1 narrow_1) := fun i hi => zfm (zps.getD i 0 + 2) ((by decide +kernel : ∀ i, i < 16 → decide (zFl[zps.getD i 0 + 2]? = some (Cond.arrayOf (.field (ztm zpS i) "java/lang/String" "value" "[B") .byte)) = true) i hi)
theorem zs_4 : ∀ i, i < 16 → Cond.eq (.length (.field (ztm zpS i) "java/lang/String" "value" "[B")) (.int (Int32.ofNat (zsL.getD i 0))) ∈ flatC (Jvm.Cond.and given_1 narrow_1) := fun i hi => zfm (zps.getD i 0 + 3) ((by decide +kernel : ∀ i, i < 16 → decide (zFl[zps.getD i 0 + 3]? = some (Cond.eq (.length (.field (ztm zpS i) "java/lang/String" "value" "[B")) (.int (Int32.ofNat (zsL.getD i 0))))) = true) i hi)
theorem zs_5 : ∀ i, i < 16 → ∀ j, j < zsL.getD i 0 → Cond.eq (.elem (.field (ztm zpS i) "java/lang/String" "value" "[B") (.int (Int32.ofNat j))) (.int ((zsB.getD i []).getD j 0)) ∈ flatC (Jvm.Cond.and given_1 narrow_1) := fun i hi j hj => zfm (zps.getD i 0 + 4 + j) ((by decide +kernel : ∀ i, i < 16 → ∀ j, j < zsL.getD i 0 → decide (zFl[zps.getD i 0 + 4 + j]? = some (Cond.eq (.elem (.field (ztm zpS i) "java/lang/String" "value" "[B") (.int (Int32.ofNat j))) (.int ((zsB.getD i []).getD j 0)))) = true) i hi j hj)
theorem zs_6 : ∀ i, i < 16 → zsL.getD i 0 < 20 := by decide
theorem zs_7 : ∀ i, i < 16 → ∀ j, j < 16 → zsL.getD i 0 = zsL.getD j 0 → (∀ k, k < zsL.getD i 0 → (zsB.getD i []).getD k 0 = (zsB.getD j []).getD k 0) → i = j := by decide +kernel
theorem zy_1 : ∀ i, i < 12 → Cond.exactly (ztm zpY i) "java/lang/String" ∈ flatC (Jvm.Cond.and given_1 narrow_1) := fun i hi => zfm (zpy.getD i 0) ((by decide +kernel : ∀ i, i < 12 → decide (zFl[zpy.getD i 0]? = some (Cond.exactly (ztm zpY i) "java/lang/String")) = true) i hi)
theorem zy_2 : ∀ i, i < 12 → Cond.eq (.field (ztm zpY i) "java/lang/String" "coder" "B") (.int 0) ∈ flatC (Jvm.Cond.and given_1 narrow_1) := fun i hi => zfm (zpy.getD i 0 + 1) ((by decide +kernel : ∀ i, i < 12 → decide (zFl[zpy.getD i 0 + 1]? = some (Cond.eq (.field (ztm zpY i) "java/lang/String" "coder" "B") (.int 0))) = true) i hi)
theorem zy_3 : ∀ i, i < 12 → Cond.arrayOf (.field (ztm zpY i) "java/lang/String" "value" "[B") .byte ∈ flatC (Jvm.Cond.and given_1 narrow_1) := fun i hi => zfm (zpy.getD i 0 + 2) ((by decide +kernel : ∀ i, i < 12 → decide (zFl[zpy.getD i 0 + 2]? = some (Cond.arrayOf (.field (ztm zpY i) "java/lang/String" "value" "[B") .byte)) = true) i hi)
theorem zy_4 : ∀ i, i < 12 → Cond.eq (.length (.field (ztm zpY i) "java/lang/String" "value" "[B")) (.int (Int32.ofNat (ySL.getD i 0))) ∈ flatC (Jvm.Cond.and given_1 narrow_1) := fun i hi => zfm (zpy.getD i 0 + 3) ((by decide +kernel : ∀ i, i < 12 → decide (zFl[zpy.getD i 0 + 3]? = some (Cond.eq (.length (.field (ztm zpY i) "java/lang/String" "value" "[B")) (.int (Int32.ofNat (ySL.getD i 0))))) = true) i hi)
theorem zy_5 : ∀ i, i < 12 → ∀ j, j < ySL.getD i 0 → Cond.eq (.elem (.field (ztm zpY i) "java/lang/String" "value" "[B") (.int (Int32.ofNat j))) (.int ((ySB.getD i []).getD j 0)) ∈ flatC (Jvm.Cond.and given_1 narrow_1) := fun i hi j hj => zfm (zpy.getD i 0 + 4 + j) ((by decide +kernel : ∀ i, i < 12 → ∀ j, j < ySL.getD i 0 → decide (zFl[zpy.getD i 0 + 4 + j]? = some (Cond.eq (.elem (.field (ztm zpY i) "java/lang/String" "value" "[B") (.int (Int32.ofNat j))) (.int ((ySB.getD i []).getD j 0)))) = true) i hi j hj)
theorem zy_6 : ∀ i, i < 12 → ySL.getD i 0 < 20 := by decide
theorem zy_7 : ∀ i, i < 12 → ∀ j, j < 12 → ySL.getD i 0 = ySL.getD j 0 → (∀ k, k < ySL.getD i 0 → (ySB.getD i []).getD k 0 = (ySB.getD j []).getD k 0) → i = j := by decide +kernel
theorem zf_7 : ∀ i, i < 3 → Cond.arrayOf (.static RX7 (zsN i) "[I") .int ∈ flatC (Jvm.Cond.and given_1 narrow_1) := fun i hi => zfm ([228, 238, 7].getD i 0) ((by decide +kernel : ∀ i, i < 3 → decide (zFl[[228, 238, 7].getD i 0]? = some (Cond.arrayOf (.static RX7 (zsN i) "[I") .int)) = true) i hi)
theorem zf_8 : ∀ i, i < 3 → Cond.eq (.length (.static RX7 (zsN i) "[I")) (.int (Int32.ofNat 7)) ∈ flatC (Jvm.Cond.and given_1 narrow_1) := fun i hi => zfm ([228, 238, 7].getD i 0 + 1) ((by decide +kernel : ∀ i, i < 3 → decide (zFl[[228, 238, 7].getD i 0 + 1]? = some (Cond.eq (.length (.static RX7 (zsN i) "[I")) (.int (Int32.ofNat 7)))) = true) i hi)
theorem zf_9 : ∀ i, i < 3 → ∀ j, j < 7 → Cond.eq (.elem (.static RX7 (zsN i) "[I") (.int (Int32.ofNat j))) (.int (zi (zsV i j))) ∈ flatC (Jvm.Cond.and given_1 narrow_1) := fun i hi j hj => zfm ([228, 238, 7].getD i 0 + 2 + j) ((by decide +kernel : ∀ i, i < 3 → ∀ j, j < 7 → decide (zFl[[228, 238, 7].getD i 0 + 2 + j]? = some (Cond.eq (.elem (.static RX7 (zsN i) "[I") (.int (Int32.ofNat j))) (.int (zi (zsV i j))))) = true) i hi j hj)
theorem zf_10 : Cond.eq (.static "java/lang/String" "COMPACT_STRINGS" "Z") (.int 1) ∈ flatC (Jvm.Cond.and given_1 narrow_1) := zfm 16 (by decide +kernel)
theorem zf_11 : Cond.isRef (.static "jdk/internal/util/Preconditions" "SIOOBE_FORMATTER" "Ljava/util/function/BiFunction;") ∈ flatC (Jvm.Cond.and given_1 narrow_1) := zfm 17 (by decide +kernel)
theorem zf_12 : Cond.isRef (.static Bundle.tN "UNASSIGNED_STACK" Bundle.steD) ∈ flatC (Jvm.Cond.and given_1 narrow_1) := zfm 4 (by decide +kernel)
theorem zf_13 : Cond.isRef (.static Bundle.tN "SUPPRESSED_SENTINEL" Bundle.listD) ∈ flatC (Jvm.Cond.and given_1 narrow_1) := zfm 5 (by decide +kernel)
/-- the tables of digits -/
def ydV (k j : Nat) : Int := (((if k = 0 then j % 10 else j / 10 : Nat) : Int) + 48)
theorem zd_1 : ∀ k, k < 2 → Cond.arrayOf (.static "java/lang/Integer" (yDg k) "[B") .byte ∈ flatC (Jvm.Cond.and given_1 narrow_1) := fun i hi => zfm ([22, 125].getD i 0) ((by decide +kernel : ∀ i, i < 2 → decide (zFl[[22, 125].getD i 0]? = some (Cond.arrayOf (.static "java/lang/Integer" (yDg i) "[B") .byte)) = true) i hi)
theorem zd_2 : ∀ k, k < 2 → Cond.eq (.length (.static "java/lang/Integer" (yDg k) "[B")) (.int (Int32.ofNat 100)) ∈ flatC (Jvm.Cond.and given_1 narrow_1) := fun i hi => zfm ([22, 125].getD i 0 + 1) ((by decide +kernel : ∀ i, i < 2 → decide (zFl[[22, 125].getD i 0 + 1]? = some (Cond.eq (.length (.static "java/lang/Integer" (yDg i) "[B")) (.int (Int32.ofNat 100)))) = true) i hi)
theorem zd_3 : ∀ k, k < 2 → ∀ j, j < 100 → Cond.eq (.elem (.static "java/lang/Integer" (yDg k) "[B") (.int (Int32.ofNat j))) (.int (zi (ydV k j))) ∈ flatC (Jvm.Cond.and given_1 narrow_1) := fun i hi j hj => zfm ([22, 125].getD i 0 + 2 + j) ((by decide +kernel : ∀ i, i < 2 → ∀ j, j < 100 → decide (zFl[[22, 125].getD i 0 + 2 + j]? = some (Cond.eq (.elem (.static "java/lang/Integer" (yDg i) "[B") (.int (Int32.ofNat j))) (.int (zi (ydV i j))))) = true) i hi j hj)
theorem zlw_1 : ∀ i, i < 3 → Cond.laysStatic RX7 (zsN i) "[I" ∈ lw_tbl := fun i hi => by
  match i, hi with
  | 0, _ => exact lwm 963 (by decide +kernel)
  | 1, _ => exact lwm 965 (by decide +kernel)
  | 2, _ => exact lwm 320 (by decide +kernel)
theorem zlw_6 : ∀ k, k < 2 → Cond.laysStatic "java/lang/Integer" (yDg k) "[B" ∈ lw_tbl := fun i hi => by
  match i, hi with
  | 0, _ => exact lwm 628 (by decide +kernel)
  | 1, _ => exact lwm 630 (by decide +kernel)
theorem zlw_2 {s : State} {args : Array Value} (hts : ∀ w ∈ lw_tbl, w.before args s = true) : ∀ q ∈ zw_NM, va_Nw (.methodLinkNest q.1 q.2.1 q.2.2.1 q.2.2.2) s := by
  intro q hq
  simp only [zw_NM, List.mem_cons, List.not_mem_nil, or_false] at hq
  rcases hq with rfl | rfl | rfl | rfl | rfl | rfl | rfl | rfl
  · exact va_Nw.of rfl (hts _ (lwm 365 (by decide +kernel)))
  · exact va_Nw.of rfl (hts _ (lwm 385 (by decide +kernel)))
  · exact va_Nw.of rfl (hts _ (lwm 391 (by decide +kernel)))
  · exact va_Nw.of rfl (hts _ (lwm 847 (by decide +kernel)))
  · exact va_Nw.of rfl (hts _ (lwm 136 (by decide +kernel)))
  · exact va_Nw.of rfl (hts _ (lwm 199 (by decide +kernel)))
  · exact va_Nw.of rfl (hts _ (lwm 237 (by decide +kernel)))
  · exact va_Nw.of rfl (hts _ (lwm 259 (by decide +kernel)))
theorem zlw_3 {s : State} {args : Array Value} (hts : ∀ w ∈ lw_tbl, w.before args s = true) : ∀ q ∈ zw_NF, va_Nw (.fieldLinkNest q.1 q.2.1 q.2.2.1 q.2.2.2.1 q.2.2.2.2.1 q.2.2.2.2.2) s := by
  intro q hq
  simp only [zw_NF, List.mem_cons, List.not_mem_nil, or_false] at hq
  rcases hq with rfl | rfl | rfl
  · exact va_Nw.of rfl (hts _ (lwm 962 (by decide +kernel)))
  · exact va_Nw.of rfl (hts _ (lwm 964 (by decide +kernel)))
  · exact va_Nw.of rfl (hts _ (lwm 319 (by decide +kernel)))
theorem zlw_4 {s : State} {args : Array Value} (hts : ∀ w ∈ lw_tbl, w.before args s = true) : ∀ q ∈ zw_DC, va_Nw (.declares q) s := by
  intro q hq
  simp only [zw_DC, List.mem_cons, List.not_mem_nil, or_false] at hq
  rcases hq with rfl | rfl | rfl
  · exact va_Nw.of rfl (hts _ (lwm 68 (by decide +kernel)))
  · exact va_Nw.of rfl (hts _ (lwm 70 (by decide +kernel)))
  · exact va_Nw.of rfl (hts _ (lwm 72 (by decide +kernel)))
theorem zlw_5 : ∀ q ∈ zw_SR, Cond.stringRef q.1 q.2.1 q.2.2.2 ∈ lw_tbl ∧ q.2.2.1 < 16 ∧ ztm zpS q.2.2.1 = .string q.1 q.2.1 := by
  intro q hq
  simp only [zw_SR, List.mem_cons, List.not_mem_nil, or_false] at hq
  rcases hq with rfl | rfl | rfl | rfl | rfl | rfl | rfl | rfl | rfl | rfl | rfl | rfl | rfl | rfl | rfl | rfl
  · exact ⟨lwm 823 (by decide +kernel), by decide, rfl⟩
  · exact ⟨lwm 852 (by decide +kernel), by decide, rfl⟩
  · exact ⟨lwm 869 (by decide +kernel), by decide, rfl⟩
  · exact ⟨lwm 870 (by decide +kernel), by decide, rfl⟩
  · exact ⟨lwm 871 (by decide +kernel), by decide, rfl⟩
  · exact ⟨lwm 879 (by decide +kernel), by decide, rfl⟩
  · exact ⟨lwm 880 (by decide +kernel), by decide, rfl⟩
  · exact ⟨lwm 881 (by decide +kernel), by decide, rfl⟩
  · exact ⟨lwm 882 (by decide +kernel), by decide, rfl⟩
  · exact ⟨lwm 883 (by decide +kernel), by decide, rfl⟩
  · exact ⟨lwm 884 (by decide +kernel), by decide, rfl⟩
  · exact ⟨lwm 885 (by decide +kernel), by decide, rfl⟩
  · exact ⟨lwm 713 (by decide +kernel), by decide, rfl⟩
  · exact ⟨lwm 105 (by decide +kernel), by decide, rfl⟩
  · exact ⟨lwm 145 (by decide +kernel), by decide, rfl⟩
  · exact ⟨lwm 1171 (by decide +kernel), by decide, rfl⟩
theorem zlw_7 : ∀ q ∈ ySR, Cond.stringRef RL q.1 q.2.2 ∈ lw_tbl ∧ q.2.1 < 12 ∧ ztm zpY q.2.1 = .string RL q.1 := by
  intro q hq
  simp only [ySR, List.mem_cons, List.not_mem_nil, or_false] at hq
  rcases hq with rfl | rfl | rfl | rfl | rfl | rfl | rfl | rfl | rfl | rfl | rfl | rfl
  · exact ⟨lwm 736 (by decide +kernel), by decide, rfl⟩
  · exact ⟨lwm 495 (by decide +kernel), by decide, rfl⟩
  · exact ⟨lwm 639 (by decide +kernel), by decide, rfl⟩
  · exact ⟨lwm 643 (by decide +kernel), by decide, rfl⟩
  · exact ⟨lwm 647 (by decide +kernel), by decide, rfl⟩
  · exact ⟨lwm 648 (by decide +kernel), by decide, rfl⟩
  · exact ⟨lwm 709 (by decide +kernel), by decide, rfl⟩
  · exact ⟨lwm 743 (by decide +kernel), by decide, rfl⟩
  · exact ⟨lwm 744 (by decide +kernel), by decide, rfl⟩
  · exact ⟨lwm 758 (by decide +kernel), by decide, rfl⟩
  · exact ⟨lwm 762 (by decide +kernel), by decide, rfl⟩
  · exact ⟨lwm 713 (by decide +kernel), by decide, rfl⟩
theorem zlw_8 {s : State} {args : Array Value} (hts : ∀ w ∈ lw_tbl, w.before args s = true) : ∀ y ∈ yPr, va_Nw (.selects RJ4 y y) s := by
  intro q hq
  simp only [yPr, List.mem_cons, List.not_mem_nil, or_false] at hq
  rcases hq with rfl | rfl | rfl | rfl
  · exact va_Nw.of rfl (sel_priv (n := 4) ⟨by decide +kernel, by decide +kernel⟩ (hts _ (lwm 465 (by decide +kernel))) (hts _ (lwm 1209 (by decide +kernel))) (hts _ (lwm 508 (by decide +kernel))) (hts _ (lwm 509 (by decide +kernel))))
  · exact va_Nw.of rfl (sel_priv (n := 4) ⟨by decide +kernel, by decide +kernel⟩ (hts _ (lwm 465 (by decide +kernel))) (hts _ (lwm 1210 (by decide +kernel))) (hts _ (lwm 512 (by decide +kernel))) (hts _ (lwm 513 (by decide +kernel))))
  · exact va_Nw.of rfl (sel_priv (n := 4) ⟨by decide +kernel, by decide +kernel⟩ (hts _ (lwm 465 (by decide +kernel))) (hts _ (lwm 1211 (by decide +kernel))) (hts _ (lwm 581 (by decide +kernel))) (hts _ (lwm 582 (by decide +kernel))))
  · exact va_Nw.of rfl (sel_priv (n := 4) ⟨by decide +kernel, by decide +kernel⟩ (hts _ (lwm 465 (by decide +kernel))) (hts _ (lwm 1212 (by decide +kernel))) (hts _ (lwm 585 (by decide +kernel))) (hts _ (lwm 586 (by decide +kernel))))
/-- which arrays -/
theorem zarr_ex {s : State} {args : Array Value} (hts : ∀ w ∈ lw_tbl, w.before args s = true) (k : Nat) : ∃ cA : ClassId, 9 ≤ k → k < 22 → ArrOfT s cA (zar k).2.2 ∧ va_RA s cA (zar k).2.2 := by
  have pi : ∀ ty : FieldType, (Cond.arrayClass ty).before args s = true → (∀ C, ty ≠ .object C) → ∃ cA : ClassId, ArrOfT s cA ty ∧ va_RA s cA ty := by
    intro ty h hne
    obtain ⟨cA, kA, comp, h1, h2, h3⟩ := Cond.arrayClass_spec h
    refine ⟨cA, fun n z => ⟨fun k h => (by cases h), kA, h2, comp, h3⟩, ?_⟩
    cases ty with
    | object C => exact absurd rfl (hne C)
    | _ => exact h1
  have po : ∀ C : String, (Cond.arrayOver (.object C)).before args s = true → ∃ cA : ClassId, ArrOfT s cA (.object C) ∧ va_RA s cA (.object C) := by
    intro C h
    obtain ⟨comp, cA, kA, h1, h2, h3, h4, h5⟩ := Cond.arrayOver_spec h
    exact ⟨cA, fun n z => ⟨fun k h => (by cases h), kA, h3, comp, h4⟩, ⟨kA, comp, h3, h4, h1, h5⟩⟩
  have I := pi .int (hts _ (lwm 235 (by decide +kernel))) (fun C q => by cases q)
  have B := pi .byte (hts _ (lwm 131 (by decide +kernel))) (fun C q => by cases q)
  have o5 := po RX5 (hts _ (lwm 193 (by decide +kernel)))
  have o3 := po RX3 (hts _ (lwm 195 (by decide +kernel)))
  have o0 := po RX0 (hts _ (lwm 197 (by decide +kernel)))
  have o4 := po RX4 (hts _ (lwm 373 (by decide +kernel)))
  match k with
  | 9 => exact ⟨I.choose, fun _ _ => I.choose_spec⟩
  | 10 => exact ⟨I.choose, fun _ _ => I.choose_spec⟩
  | 11 => exact ⟨o5.choose, fun _ _ => o5.choose_spec⟩
  | 12 => exact ⟨o3.choose, fun _ _ => o3.choose_spec⟩
  | 13 => exact ⟨o0.choose, fun _ _ => o0.choose_spec⟩
  | 14 => exact ⟨B.choose, fun _ _ => B.choose_spec⟩
  | 15 => exact ⟨o4.choose, fun _ _ => o4.choose_spec⟩
  | 16 => exact ⟨I.choose, fun _ _ => I.choose_spec⟩
  | 17 => exact ⟨I.choose, fun _ _ => I.choose_spec⟩
  | 18 => exact ⟨I.choose, fun _ _ => I.choose_spec⟩
  | 19 => exact ⟨I.choose, fun _ _ => I.choose_spec⟩
  | 20 => exact ⟨I.choose, fun _ _ => I.choose_spec⟩
  | 21 => exact ⟨I.choose, fun _ _ => I.choose_spec⟩
  | 0 => exact ⟨0, fun h => absurd h (by decide)⟩
  | 1 => exact ⟨0, fun h => absurd h (by decide)⟩
  | 2 => exact ⟨0, fun h => absurd h (by decide)⟩
  | 3 => exact ⟨0, fun h => absurd h (by decide)⟩
  | 4 => exact ⟨0, fun h => absurd h (by decide)⟩
  | 5 => exact ⟨0, fun h => absurd h (by decide)⟩
  | 6 => exact ⟨0, fun h => absurd h (by decide)⟩
  | 7 => exact ⟨0, fun h => absurd h (by decide)⟩
  | 8 => exact ⟨0, fun h => absurd h (by decide)⟩
  | k + 22 => exact ⟨0, fun _ h => absurd h (by omega)⟩
theorem zcls_ex {s : State} {args : Array Value} (hts : ∀ w ∈ lw_tbl, w.before args s = true) (c : Nat) : ∃ d : ClassId × (Nat → Nat), ∀ q, vwCl[c]? = some q → u_Kn s q.1 q.2.1 q.2.2 d.1 d.2 := by
  have key : ∀ {C : String} {T : u_T} {N : Nat}, (∀ w ∈ u_ws C T N, w ∈ lw_tbl) → (Cond.instantiable C N).before args s = true → ∃ d : ClassId × (Nat → Nat), u_Kn s C T N d.1 d.2 := fun h1 h2 => by
    obtain ⟨cC, iS, h⟩ := u_known hts h1 h2
    exact ⟨(cC, iS), h⟩
  have k0 := key (C := RX0) (T := TX0) (N := 11) (fun w h => zw_lw (inT0 w h)) (hts _ (lwm 258 (by decide +kernel)))
  have k1 := key (C := RX1) (T := TX1) (N := 2) (fun w h => zw_lw (inT1 w h)) (hts _ (lwm 367 (by decide +kernel)))
  have k2 := key (C := RX2) (T := TX2) (N := 6) (fun w h => zw_lw (inT2 w h)) (hts _ (lwm 384 (by decide +kernel)))
  have k3 := key (C := RX3) (T := TX3) (N := 4) (fun w h => zw_lw (inT3 w h)) (hts _ (lwm 236 (by decide +kernel)))
  have k4 := key (C := RX4) (T := TX4) (N := 9) (fun w h => zw_lw (inT4 w h)) (hts _ (lwm 187 (by decide +kernel)))
  have k5 := key (C := RX5) (T := TX5) (N := 8) (fun w h => zw_lw (inT5 w h)) (hts _ (lwm 198 (by decide +kernel)))
  have k6 := key (C := RX6) (T := TX6) (N := 7) (fun w h => zw_lw (inT6 w h)) (hts _ (lwm 390 (by decide +kernel)))
  have k7 := key (C := RX7) (T := TX7) (N := 5) (fun w h => zw_lw (inT7 w h)) (hts _ (lwm 59 (by decide +kernel)))
  have k8 := key (C := RJ4) (T := TJ4) (N := 4) (fun w h => zw_lw (inTJ4 w h)) (hts _ (lwm 465 (by decide +kernel)))
  have k9 := key (C := RJ0) (T := TJ0) (N := 4) (fun w h => zw_lw (inTJ0 w h)) (hts _ (lwm 654 (by decide +kernel)))
  match c with
  | 0 => exact ⟨k0.choose, fun q hq => by cases hq; exact k0.choose_spec⟩
  | 1 => exact ⟨k1.choose, fun q hq => by cases hq; exact k1.choose_spec⟩
  | 2 => exact ⟨k2.choose, fun q hq => by cases hq; exact k2.choose_spec⟩
  | 3 => exact ⟨k3.choose, fun q hq => by cases hq; exact k3.choose_spec⟩
  | 4 => exact ⟨k4.choose, fun q hq => by cases hq; exact k4.choose_spec⟩
  | 5 => exact ⟨k5.choose, fun q hq => by cases hq; exact k5.choose_spec⟩
  | 6 => exact ⟨k6.choose, fun q hq => by cases hq; exact k6.choose_spec⟩
  | 7 => exact ⟨k7.choose, fun q hq => by cases hq; exact k7.choose_spec⟩
  | 8 => exact ⟨k8.choose, fun q hq => by cases hq; exact k8.choose_spec⟩
  | 9 => exact ⟨k9.choose, fun q hq => by cases hq; exact k9.choose_spec⟩
  | c + 10 => exact ⟨(0, fun _ => 0), fun q hq => by simp [vwCl] at hq⟩
/-- places for all that is known -/
theorem zS_ex (a v l m t : Nat → Nat) (b d0 d1 : Nat) : ∃ S : Nat → Nat, (∀ i, i < 16 → S i = a i) ∧ (∀ i, i < 3 → S (20 + i) = t i) ∧ S 30 = b ∧ S 31 = a 0 ∧ (∀ i, i < 16 → S (40 + i) = v i) ∧ S 71 = v 0 ∧ (∀ i, i < 12 → S (80 + i) = l i) ∧ (∀ i, i < 12 → S (100 + i) = m i) ∧ S 120 = d0 ∧ S 121 = d1 := by
  refine ⟨fun i => if i < 16 then a i else if i < 20 then 0 else if i < 23 then t (i - 20) else if i = 30 then b else if i = 31 then a 0 else if i < 40 then 0 else if i < 56 then v (i - 40) else if i = 71 then v 0 else if i < 80 then 0 else if i < 92 then l (i - 80) else if i < 100 then 0 else if i < 112 then m (i - 100) else if i = 120 then d0 else d1, fun i hi => ?_, fun i hi => ?_, rfl, rfl, fun i hi => ?_, rfl, fun i hi => ?_, fun i hi => ?_, rfl, rfl⟩
  · exact if_pos hi
  · show (if 20 + i < 16 then _ else _) = _
    rw [if_neg (by omega), if_neg (by omega), if_pos (by omega), Nat.add_sub_cancel_left]
  · show (if 40 + i < 16 then _ else _) = _
    rw [if_neg (by omega), if_neg (by omega), if_neg (by omega), if_neg (by omega), if_neg (by omega), if_neg (by omega), if_pos (by omega), Nat.add_sub_cancel_left]
  · show (if 80 + i < 16 then _ else _) = _
    rw [if_neg (by omega), if_neg (by omega), if_neg (by omega), if_neg (by omega), if_neg (by omega), if_neg (by omega), if_neg (by omega), if_neg (by omega), if_neg (by omega), if_pos (by omega), Nat.add_sub_cancel_left]
  · show (if 100 + i < 16 then _ else _) = _
    rw [if_neg (by omega), if_neg (by omega), if_neg (by omega), if_neg (by omega), if_neg (by omega), if_neg (by omega), if_neg (by omega), if_neg (by omega), if_neg (by omega), if_neg (by omega), if_neg (by omega), if_pos (by omega), Nat.add_sub_cancel_left]
set_option maxRecDepth 4096 in
theorem w_start {s : State} {b L : Nat} {xs : Nat → Int32} (hL : L ≤ 260) (hts : ∀ w ∈ lw_tbl, w.before #[Value.ref b] s = true) (hgv : (Jvm.Cond.and given_1 narrow_1).before #[Value.ref b] s = true) (hX : va_X b L xs s s.heap) (hbl : b < s.heap.size) :
    ∃ w : zW, zwS w 30 = b ∧ (∀ q, zA w q ↔ s.heap.size ≤ q) ∧ yKn w s := by
  have hs := flat_of_before _ hgv
  have hA : ∀ a : Nat, a < s.heap.size → ¬ (fun q : Nat => s.heap.size ≤ q ∧ True) a := fun a h z => Nat.not_le.mpr h z.1
  obtain ⟨dC, hdC⟩ := Classical.axiomOfChoice (zcls_ex hts)
  obtain ⟨aC, haC⟩ := Classical.axiomOfChoice (zarr_ex hts)
  obtain ⟨adK, adV, hS, hev⟩ := strs_of (args := #[Value.ref b]) (s := s) (N := 16) (tm := ztm zpS) (len := zsL) (byt := zsB) (A := fun q => s.heap.size ≤ q ∧ True) zs_6
    (fun i hi => hs _ (zs_1 i hi)) (fun i hi => hs _ (zs_2 i hi)) (fun i hi => hs _ (zs_3 i hi)) (fun i hi => hs _ (zs_4 i hi)) (fun i hi j hj => hs _ (zs_5 i hi j hj)) zs_7 hA
  obtain ⟨lwK, lwV, hY, hevY⟩ := strs_of (args := #[Value.ref b]) (s := s) (N := 12) (tm := ztm zpY) (len := ySL) (byt := ySB) (A := fun q => s.heap.size ≤ q ∧ True) zy_6
    (fun i hi => hs _ (zy_1 i hi)) (fun i hi => hs _ (zy_2 i hi)) (fun i hi => hs _ (zy_3 i hi)) (fun i hi => hs _ (zy_4 i hi)) (fun i hi j hj => hs _ (zy_5 i hi j hj)) zy_7 hA
  have hst : ∀ i : Nat, ∃ t : Nat, i < 3 → va_Z RX7 (zsN i) "[I" (.ref t) (fun q => s.heap.size ≤ q ∧ True) s s.heap ∧ va_T .int t 7 (fun j => .int (zi (zsV i j))) (fun q => s.heap.size ≤ q ∧ True) s s.heap := by
    intro i
    by_cases hi : i < 3
    · obtain ⟨t, ht, hT⟩ := va_Tof (args := #[Value.ref b]) (s := s) (tm := .static RX7 (zsN i) "[I") (ty := .int) (N := 7) (f := fun j => .int (zi (zsV i j))) (A := fun q => s.heap.size ≤ q ∧ True) (by decide) (hs _ (zf_7 i hi)) (va_eqt (hs _ (zf_8 i hi))) (fun j hj => va_eqt (hs _ (zf_9 i hi j hj))) hA
      exact ⟨t, fun _ => ⟨va_Zof (hts _ (zlw_1 i hi)) (hts _ (lwm 21 (by decide +kernel))) ht hA, hT⟩⟩
    · exact ⟨0, fun h => absurd h hi⟩
  obtain ⟨st, hst⟩ := Classical.axiomOfChoice hst
  have hdg : ∀ k : Nat, ∃ t : Nat, k < 2 → va_Z "java/lang/Integer" (yDg k) "[B" (.ref t) (fun q => s.heap.size ≤ q ∧ True) s s.heap ∧ va_T .byte t 100 (fun j => .int (zi (ydV k j))) (fun q => s.heap.size ≤ q ∧ True) s s.heap := by
    intro i
    by_cases hi : i < 2
    · obtain ⟨t, ht, hT⟩ := va_Tof (args := #[Value.ref b]) (s := s) (tm := .static "java/lang/Integer" (yDg i) "[B") (ty := .byte) (N := 100) (f := fun j => .int (zi (ydV i j))) (A := fun q => s.heap.size ≤ q ∧ True) (by decide) (hs _ (zd_1 i hi)) (va_eqt (hs _ (zd_2 i hi))) (fun j hj => va_eqt (hs _ (zd_3 i hi j hj))) hA
      exact ⟨t, fun _ => ⟨va_Zof (hts _ (zlw_6 i hi)) (hts _ (lwm 39 (by decide +kernel))) ht hA, hT⟩⟩
    · exact ⟨0, fun h => absurd h hi⟩
  obtain ⟨dg, hdg⟩ := Classical.axiomOfChoice hdg
  obtain ⟨S, s0, s20, s30, s31, s40, s71, s80, s100, s120, s121⟩ := zS_ex adK adV lwK lwV st b (dg 0) (dg 1)
  have hk0 : ∀ a : Nat, a < s.heap.size → (if s.heap.size ≤ a then 0 else 31) = 31 := fun a ha => if_neg (by omega)
  have hkS : ∀ i, i < 16 → adK i < s.heap.size ∧ adV i < s.heap.size := fun i hi => by
    obtain ⟨⟨c1, g1, -⟩, -, -, ⟨c2, g2, -⟩⟩ := hS.1 i hi
    exact ⟨(Array.getElem?_eq_some_iff.mp g1).1, (Array.getElem?_eq_some_iff.mp g2).1⟩
  refine ⟨((fun c => (dC c).1, fun c => (dC c).2), aC, s.heap.size, [], (fun a => if s.heap.size ≤ a then 0 else 31), S, (fun _ => True), L, (fun j => (xs j).toInt), zsB.getD 0 []), s30, fun q => ⟨fun h => h.1, fun h => ⟨h, trivial⟩⟩, ⟨⟨fun c q hq => hdC c q hq, fun k q hq => ?_⟩, ⟨zlw_2 hts, zlw_3 hts, fun q hq => ?_, zlw_4 hts, va_Nw.of rfl (hts _ (lwm 66 (by decide +kernel)))⟩, ⟨fun i hi => ⟨?_, ?_, ?_⟩, va_Zof (hts _ (lwm 474 (by decide +kernel))) (hts _ (lwm 32 (by decide +kernel))) (va_eqt (hs _ zf_10)) hA, vk_congr s0 s40 hS, fun i hi => ⟨?_, ?_⟩, va_Zqof (hts _ (lwm 558 (by decide +kernel))) (hts _ (lwm 37 (by decide +kernel))) (hs _ zf_11) hA, vx_Zqof (hts _ (lwm 93 (by decide +kernel))) (hts _ (lwm 40 (by decide +kernel))) (hs _ zf_12) hA, vx_Zqof (hts _ (lwm 95 (by decide +kernel))) (hts _ (lwm 40 (by decide +kernel))) (hs _ zf_13) hA, ⟨?_, ?_⟩, ⟨hL, fun j => zR_of _⟩, ⟨⟨?_, ?_⟩, ?_⟩, ?_⟩, Nat.le_refl _⟩, ⟨zlw_8 hts, ⟨va_Nw.of rfl (hts _ (lwm 534 (by decide +kernel))), va_AO.of (hts _ (lwm 193 (by decide +kernel))), va_AO.of (hts _ (lwm 195 (by decide +kernel))), va_AO.of (hts _ (lwm 197 (by decide +kernel))), va_AO.of (hts _ (lwm 373 (by decide +kernel)))⟩, fun q hq => ?_⟩, vk_congr s80 s100 hY, ⟨?_, ?_⟩, ?_, ?_⟩
  · unfold ztys at hq
    rw [List.getElem?_map] at hq
    by_cases hk : k < 13
    · rw [List.getElem?_range hk] at hq
      cases hq
      exact haC (k + 9) (by omega) (by omega)
    · rw [List.getElem?_eq_none (by rw [List.length_range]; omega)] at hq
      cases hq
  · obtain ⟨h1, h2, h3⟩ := zlw_5 q hq
    refine vk_R.of (hts _ h1) ?_
    have hh := hev q.2.2.1 h2
    rw [h3] at hh
    refine hh.trans ?_
    show some (Value.ref (adK q.2.2.1)) = some (Value.ref (S q.2.2.1))
    rw [s0 _ h2]
  · show (if s.heap.size ≤ S (20 + i) then 0 else 31) = 31
    rw [s20 i hi]
    obtain ⟨cell, g1, -⟩ := (hst i hi).2
    exact hk0 _ (Array.getElem?_eq_some_iff.mp g1).1
  · show va_Z _ _ _ (.ref (S (20 + i))) _ _ _
    rw [s20 i hi]
    exact (hst i hi).1
  · show va_T _ (S (20 + i)) _ _ _ _ _
    rw [s20 i hi]
    exact (hst i hi).2
  · show (if s.heap.size ≤ S i then 0 else 31) = 31
    rw [s0 i hi]
    exact hk0 _ (hkS i hi).1
  · show (if s.heap.size ≤ S (40 + i) then 0 else 31) = 31
    rw [s40 i hi]
    exact hk0 _ (hkS i hi).2
  · show (if s.heap.size ≤ S 30 then 0 else 31) = 31
    rw [s30]
    exact hk0 _ hbl
  · show va_T .int (S 30) L (fun j => .int (zi (xs j).toInt)) _ _ _
    rw [s30]
    obtain ⟨scr, h1, h2, h3, h4, h5⟩ := hX
    refine ⟨scr, h1, h2, h3, by omega, by rw [h4], fun j hj => ?_, fun z => Nat.not_le.mpr hbl z.1⟩
    show scr.slots[j]? = some (.int (zi (xs j).toInt))
    rw [zi_of]
    exact h5 j hj
  · show (if s.heap.size ≤ S 31 then 0 else 31) = 31
    rw [s31]
    exact hk0 _ (hkS 0 (by decide)).1
  · show (if s.heap.size ≤ S 71 then 0 else 31) = 31
    rw [s71]
    exact hk0 _ (hkS 0 (by decide)).2
  · refine vk_congr (a := fun _ => adK 0) (v := fun _ => adV 0) (fun i hi => s31) (fun i hi => s71) ⟨fun i hi => ?_, fun i j hi hj _ => by omega⟩
    obtain rfl : i = 0 := by omega
    exact hS.1 0 (by decide)
  · show (zsB.getD 0 []).length ≤ 100000 ∧ ∀ x ∈ zsB.getD 0 [], 0 ≤ x.toInt ∧ x.toInt < 128
    decide
  · obtain ⟨h1, h2, h3⟩ := zlw_7 q hq
    refine vk_R.of (hts _ h1) ?_
    have hh := hevY q.2.1 h2
    rw [h3] at hh
    refine hh.trans ?_
    show some (Value.ref (lwK q.2.1)) = some (Value.ref (S (80 + q.2.1)))
    rw [s80 _ h2]
  · show va_Z _ _ _ (.ref (S 120)) _ _ _
    rw [s120]
    exact (hdg 0 (by decide)).1
  · show va_T _ (S 120) _ _ _ _ _
    rw [s120]
    exact (hdg 0 (by decide)).2
  · show va_Z _ _ _ (.ref (S 121)) _ _ _
    rw [s121]
    exact (hdg 1 (by decide)).1
  · show va_T _ (S 121) _ _ _ _ _
    rw [s121]
    exact (hdg 1 (by decide)).2
