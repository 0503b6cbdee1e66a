/-! The pool of our own objects, seen as two functions: whole numbers and references by address and slot. A kind is a class (0 to 8, as in vwCl) or an array (9 to 21); zwK w a is 0 for what is not ours, else the kind plus 1. -/
abbrev zv : Type := Int ⊕ (Nat × Nat)
abbrev zH : Type := (Nat → Nat → Int) × (Nat → Nat → Nat)
abbrev zW : Type := va_G × (Nat → ClassId) × Nat × List Nat × (Nat → Nat) × (Nat → Nat) × (Nat → Prop) × Nat × (Nat → Int) × List Int32
abbrev zwD (w : zW) : va_G := w.1
abbrev zwA (w : zW) : Nat → ClassId := w.2.1
abbrev zwB (w : zW) : Nat := w.2.2.1
abbrev zwL (w : zW) : List Nat := w.2.2.2.1
abbrev zwK (w : zW) : Nat → Nat := w.2.2.2.2.1
abbrev zwS (w : zW) : Nat → Nat := w.2.2.2.2.2.1
/-- .. but only these -/
abbrev zwU (w : zW) : Nat → Prop := w.2.2.2.2.2.2.1
/-- the script: its length, its numbers -/
abbrev zwN (w : zW) : Nat := w.2.2.2.2.2.2.2.1
abbrev zwX (w : zW) : Nat → Int := w.2.2.2.2.2.2.2.2.1
/-- a text: its letters -/
abbrev zwTl (w : zW) : List Int32 := w.2.2.2.2.2.2.2.2.2
/-- which cells may be written: all from the base on -/
def zA (w : zW) : Nat → Prop := fun q => zwB w ≤ q ∧ zwU w q
def zval : zv → Value
  | .inl x => .int (zi x)
  | .inr q => .ref q.2
theorem zval_cat (v : zv) : (zval v).category = 1 := by cases v <;> rfl
def zslot (k : Nat) (h : zH) (a j : Nat) : Value := if zft k j = 0 then .int (zi (h.1 a j)) else .ref (h.2 a j)
def zcont (k : Nat) (h : zH) (a : Nat) : (Nat → Int32) ⊕ (Nat → Int64) ⊕ (Nat → UInt32) ⊕ (Nat → UInt64) ⊕ (Nat → Option Nat) :=
  if (zar k).2.1 = 0 then (if (zar k).2.2 = .long then .inr (.inl (fun j => Int64.ofInt (h.1 a j))) else .inl (fun j => zi (h.1 a j))) else .inr (.inr (.inr (.inr (fun j => some (h.2 a j)))))
def zEk (w : zW) (k : Nat) (h : zH) (a : Nat) : va_E :=
  if k < 9 then .inr (k, (List.range (zn k)).map (zslot k h a)) else .inl (zwA w k, (zar k).1, zcont k h a)
def zE (w : zW) (h : zH) (a : Nat) : va_E := zEk w (zwK w a - 1) h a
def ztys (w : zW) : List (ClassId × FieldType) := (List.range 13).map (fun i => (zwA w (i + 9), (zar (i + 9)).2.2))
def zTy (w : zW) (h : zH) : Prop := ∀ a j, zwK w a ≠ 0 → j < zn (zwK w a - 1) → zft (zwK w a - 1) j ≠ 0 → zwK w (h.2 a j) = zft (zwK w a - 1) j
def zRg (h : zH) : Prop := ∀ a j, zR (h.1 a j)
def zRel (w : zW) (h : zH) (H : Heap) : Prop :=
  va_P (zwD w) vwCl ([] ++ va_pl (zwL w) (zE w h)) H ∧ va_D (zA w) ([] ++ va_pl (zwL w) (zE w h)) ∧ zTy w h ∧ zRg h ∧ ∀ a, zwK w a ≠ 0 ∧ zwK w a ≤ 22 → a ∈ zwL w
/-- a value is of its kind -/
def zok (w : zW) : zv → Prop
  | .inl x => zR x
  | .inr q => zwK w q.2 = q.1 + 1
def zw_SR : List (String × Nat × Nat × String) := [(RX2, 55, 0, "carriers"), (RX2, 64, 1, "station"), (RX2, 69, 2, "rain"), (RX2, 74, 3, "call"), (RX2, 79, 4, "set"), (RX2, 170, 5, "length"), (RX2, 172, 6, "guard"), (RX2, 174, 7, "reference"), (RX2, 176, 8, "preamble"), (RX2, 178, 9, "level"), (RX2, 180, 10, "step"), (RX2, 181, 11, "gain"), (RL, 60, 12, "s"), (RX7, 277, 13, "no such station"), (RX7, 282, 14, "no such call"), (RX7, 284, 15, "no such carrier")]
def zsB : List (List Int32) := [[99, 97, 114, 114, 105, 101, 114, 115], [115, 116, 97, 116, 105, 111, 110], [114, 97, 105, 110], [99, 97, 108, 108], [115, 101, 116], [108, 101, 110, 103, 116, 104], [103, 117, 97, 114, 100], [114, 101, 102, 101, 114, 101, 110, 99, 101], [112, 114, 101, 97, 109, 98, 108, 101], [108, 101, 118, 101, 108], [115, 116, 101, 112], [103, 97, 105, 110], [115], [110, 111, 32, 115, 117, 99, 104, 32, 115, 116, 97, 116, 105, 111, 110], [110, 111, 32, 115, 117, 99, 104, 32, 99, 97, 108, 108], [110, 111, 32, 115, 117, 99, 104, 32, 99, 97, 114, 114, 105, 101, 114]]
def zsL : List Nat := [8, 7, 4, 4, 3, 6, 5, 9, 8, 5, 4, 4, 1, 15, 12, 15]
/-- the static rows of the class: 0 least, 1 greatest, 2 initial settings -/
def zsN : Nat → String
  | 0 => "LEAST_SETTING"
  | 1 => "GREATEST_SETTING"
  | _ => "INITIAL_SETTING"
def zsT : List (List Int) := [[200, 0, 1, 1, 0, 1, 1], [5000, 200, 500, 200, 999, 100, 100], [1000, 10, 50, 20, 300, 20, 50]]
def zsV (i j : Nat) : Int := (zsT.getD i []).getD j 0
def zw_X : String := "java/lang/IndexOutOfBoundsException"
/-- the words of the throw that no list of words carries -/
def zw_DC : List MethodName := [⟨"java/lang/RuntimeException", "<init>", "(Ljava/lang/String;)V"⟩, ⟨"java/lang/Exception", "<init>", "(Ljava/lang/String;)V"⟩, ⟨"java/lang/Throwable", "<init>", "(Ljava/lang/String;)V"⟩]
def zNst (w : zW) (U : State) : Prop := (∀ q ∈ zw_NM, va_Nw (.methodLinkNest q.1 q.2.1 q.2.2.1 q.2.2.2) U) ∧ (∀ q ∈ zw_NF, va_Nw (.fieldLinkNest q.1 q.2.1 q.2.2.1 q.2.2.2.1 q.2.2.2.2.1 q.2.2.2.2.2) U) ∧ (∀ q ∈ zw_SR, vk_R q.1 q.2.1 q.2.2.2 (zwS w q.2.2.1) U) ∧ (∀ q ∈ zw_DC, va_Nw (.declares q) U) ∧ va_Nw (.castable zw_X zw_X) U
theorem zNst.warm {w : zW} {s U : State} (hW : s.WarmedH U.vm) (h : zNst w s) : zNst w U := ⟨fun q hq => va_Nw.warmM hW (h.1 q hq), fun q hq => va_Nw.warmF hW (h.2.1 q hq), fun q hq => vk_R.warm hW (h.2.2.1 q hq), fun q hq => va_Nw.warmD hW (h.2.2.2.1 q hq), va_Nw.warmC hW h.2.2.2.2⟩
theorem zNst.same {w : zW} {u U : State} (e : u.vm = U.vm) (h : zNst w u) : zNst w U := ⟨fun q hq => va_Nw.same rfl e (h.1 q hq), fun q hq => va_Nw.same rfl e (h.2.1 q hq), fun q hq => vk_R.same e.symm (h.2.2.1 q hq), fun q hq => va_Nw.same rfl e (h.2.2.2.1 q hq), va_Nw.same rfl e h.2.2.2.2⟩
/-- the static rows and the strings: as they stand at the start; kind 30 the rows, 40 the strings, 60 their bytes -/
def zSt (w : zW) (U : State) (H : Heap) : Prop :=
  (∀ i : Nat, i < 3 → zwK w (zwS w (20 + i)) = 31 ∧ va_Z RX7 (zsN i) "[I" (.ref (zwS w (20 + i))) (zA w) U H ∧ va_T .int (zwS w (20 + i)) 7 (fun j => .int (zi (zsV i j))) (zA w) U H)
  ∧ va_Z "java/lang/String" "COMPACT_STRINGS" "Z" (.int 1) (zA w) U H
  ∧ vk_S 16 zsL zsB (fun i => zwS w i) (fun i => zwS w (40 + i)) (zA w) U H
  ∧ (∀ i : Nat, i < 16 → zwK w (zwS w i) = 31 ∧ zwK w (zwS w (40 + i)) = 31)
  ∧ va_Zq "jdk/internal/util/Preconditions" "SIOOBE_FORMATTER" "Ljava/util/function/BiFunction;" (zA w) U H
  ∧ vx_Zq Bundle.tN "UNASSIGNED_STACK" Bundle.steD (zA w) U H ∧ vx_Zq Bundle.tN "SUPPRESSED_SENTINEL" Bundle.listD (zA w) U H
  ∧ (zwK w (zwS w 30) = 31 ∧ va_T .int (zwS w 30) (zwN w) (fun j => .int (zi (zwX w j))) (zA w) U H) ∧ (zwN w ≤ 260 ∧ ∀ j, zR (zwX w j))
  ∧ ((zwK w (zwS w 31) = 31 ∧ zwK w (zwS w 71) = 31) ∧ vk_S 1 [(zwTl w).length] [zwTl w] (fun _ => zwS w 31) (fun _ => zwS w 71) (zA w) U H) ∧ ((zwTl w).length ≤ 100000 ∧ ∀ x ∈ zwTl w, 0 ≤ x.toInt ∧ x.toInt < 128)
theorem zSt.moved {w : zW} {u U : State} {H : Heap} (hW : u.vm.Alike U.vm) (h : zSt w u H) : zSt w U H := by
  obtain ⟨h1, h3, h4, h5, h6, h7, h8, h9, h10, h11, h12⟩ := h
  exact ⟨fun i hi => ⟨(h1 i hi).1, va_Z.moved hW (h1 i hi).2.1, va_T.moved hW (h1 i hi).2.2⟩, va_Z.moved hW h3, vk_S.moved hW h4, h5, va_Zq.moved hW h6, vx_Zq.moved hW h7, vx_Zq.moved hW h8, ⟨h9.1, va_T.moved hW h9.2⟩, h10, ⟨h11.1, vk_S.moved hW h11.2⟩, h12⟩
theorem zSt.kept {w : zW} {U : State} {H H1 : Heap} (hq : ∀ a : Nat, a < H.size → ¬ zA w a → H1[a]? = H[a]?) (h : zSt w U H) : zSt w U H1 := by
  obtain ⟨h1, h3, h4, h5, h6, h7, h8, h9, h10, h11, h12⟩ := h
  exact ⟨fun i hi => ⟨(h1 i hi).1, (h1 i hi).2.1.kept hq, (h1 i hi).2.2.kept hq⟩, h3.kept hq, h4.kept hq, h5, h6.kept hq, h7.kept hq, h8.kept hq, ⟨h9.1, h9.2.kept hq⟩, h10, ⟨h11.1, h11.2.kept hq⟩, h12⟩
/-- what is known of a state at which a method begins -/
def zKn (w : zW) (U : State) : Prop := va_K (zwD w) vwCl (ztys w) U ∧ zNst w U ∧ zSt w U U.heap ∧ zwB w ≤ U.heap.size
theorem zKn.warm {w : zW} {s U : State} {H : Heap} {locs : List Loc} (hW : s.WarmedH U.vm) (hS : va_S (zA w) s.heap H locs) (hU : U.heap = H) (h : zKn w s) : zKn w U :=
  ⟨va_K.moved hW.alike h.1, h.2.1.warm hW, by rw [hU]; exact zSt.kept (fun a h1 h2 => hS.2.1 a h1 h2) (zSt.moved hW.alike h.2.2.1), by rw [hU]; exact Nat.le_trans h.2.2.2 hS.1⟩
theorem zKn.same {w : zW} {u U : State} (e : u.vm = U.vm) (he : u.heap = U.heap) (h : zKn w u) : zKn w U :=
  ⟨va_K.moved (by rw [e]; exact Vm.Alike.refl _) h.1, h.2.1.same e, by rw [← he]; exact zSt.moved (by rw [e]; exact Vm.Alike.refl _) h.2.2.1, by rw [← he]; exact h.2.2.2⟩
/-- the listed locals -/
def zlo : Nat → List (Option zv) → List (Nat × Value)
  | _, [] => []
  | i, none :: t => zlo (i + 1) t
  | i, some v :: t => (i, zval v) :: zlo (i + 1) t
theorem zlo_mem {loc : List (Option zv)} : ∀ {i : Nat} {q : Nat × Value}, q ∈ zlo i loc ↔ ∃ k v, loc[k]? = some (some v) ∧ q = (i + k, zval v) := by
  induction loc with
  | nil => intro i q; simp [zlo]
  | cons x t ih =>
    intro i q
    cases x with
    | none =>
      rw [zlo, ih]
      constructor
      · rintro ⟨k, v, h1, h2⟩
        exact ⟨k + 1, v, by simpa using h1, by rw [h2, show i + 1 + k = i + (k + 1) by omega]⟩
      · rintro ⟨k, v, h1, h2⟩
        cases k with
        | zero => simp at h1
        | succ k => exact ⟨k, v, by simpa using h1, by rw [h2, show i + 1 + k = i + (k + 1) by omega]⟩
    | some y =>
      rw [zlo, List.mem_cons, ih]
      constructor
      · rintro (h | ⟨k, v, h1, h2⟩)
        · exact ⟨0, y, rfl, h⟩
        · exact ⟨k + 1, v, by simpa using h1, by rw [h2, show i + 1 + k = i + (k + 1) by omega]⟩
      · rintro ⟨k, v, h1, h2⟩
        cases k with
        | zero =>
          simp only [List.getElem?_cons_zero, Option.some.injEq] at h1
          left
          rw [h2, ← h1]
          rfl
        | succ k => exact Or.inr ⟨k, v, by simpa using h1, by rw [h2, show i + 1 + k = i + (k + 1) by omega]⟩
theorem zlo_get {ls : Array Slot} {nL : Nat} {loc : List (Option zv)} (h : lv_has ls nL (zlo 0 loc)) {i : Nat} {v : zv} (hi : loc[i]? = some (some v)) : ls[i]? = some (.val (zval v)) :=
  h.2.2 (i, zval v) (zlo_mem.mpr ⟨i, v, hi, by rw [Nat.zero_add]⟩)
theorem zlo_sub {ls : Array Slot} {nL : Nat} {l l' : List (Nat × Value)} (h : lv_has ls nL l) (hs : ∀ q ∈ l', q ∈ l) : lv_has ls nL l' := ⟨h.1, h.2.1, fun q hq => h.2.2 q (hs q hq)⟩
theorem zlo_set {ls : Array Slot} {nL i : Nat} {loc : List (Option zv)} {v : zv}
    (h : lv_has ls nL ((i, zval v) :: (zlo 0 loc).filter (fun q => !(q.1 == i) && !(q.1 + 1 == i && q.2.category == 2)))) : lv_has ls nL (zlo 0 (loc.set i (some v))) := by
  refine zlo_sub h fun q hq => ?_
  obtain ⟨k, u, h1, h2⟩ := zlo_mem.mp hq
  rw [Nat.zero_add] at h2
  subst h2
  by_cases hk : k = i
  · subst hk
    rw [List.getElem?_set] at h1
    simp only [if_true] at h1
    split at h1
    · cases h1
      exact List.mem_cons_self
    · cases h1
  · rw [List.getElem?_set_ne (Ne.symm hk)] at h1
    refine List.mem_cons_of_mem _ (List.mem_filter.mpr ⟨zlo_mem.mpr ⟨k, u, h1, by rw [Nat.zero_add]⟩, ?_⟩)
    simp [hk, zval_cat]
theorem zlo_args (av : List zv) : ∀ i, lv_args i (av.map zval) = zlo i (av.map some) := by
  induction av with
  | nil => intro i; rfl
  | cons v t ih =>
    intro i
    simp only [List.map_cons, zlo, lv_args, zval_cat]
    rw [← ih]
    rfl
