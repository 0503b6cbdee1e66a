/-- kinds of the slots: 0 a number, k + 1 a reference to kind k -/
def zfts : List (List Nat) := [[0, 0, 0, 0, 0, 0, 0, 0, 0, 0, 0], [0, 16], [7, 5, 0, 0, 0, 0], [0, 0, 0, 0], [0, 0, 10, 0, 12, 0, 13, 0, 14], [0, 0, 0, 0, 0, 0, 0, 11], [0, 15, 0, 0, 0, 0, 0], [5, 5, 6, 2, 3], [0, 0, 0, 0]]
/-- the arrays, kinds 9 to 21: length, kind of what they hold (0 a number), element type -/
def zars : List (Nat × Nat × FieldType) := [(7, 0, .int), (64, 0, .int), (6, 6, .object RX5), (8, 4, .object RX3), (16, 1, .object RX0), (1000, 0, .byte), (10, 5, .object RX4), (5, 0, .int), (1, 0, .int), (1, 0, .int), (1, 0, .int), (1, 0, .int), (1, 0, .int)]
def zar (k : Nat) : Nat × Nat × FieldType := zars.getD (k - 9) (0, 0, .int)
def zn (k : Nat) : Nat := if k < 9 then (zfts.getD k []).length else (zar k).1
def zft (k j : Nat) : Nat := if k < 9 then (zfts.getD k []).getD j 0 else (zar k).2.1
def zw_NM : List (String × Nat × MethodName × String) := [(RX7, 21, yX5_init, RX7), (RX7, 35, yX2_init, RX7), (RX2, 11, yX6_init, RX7), (RX2, 149, yX7_inRange, RX7), (RX4, 127, yX7_inRange, RX7), (RX4, 33, yX5_init, RX7), (RX4, 34, yX3_init, RX7), (RX4, 35, yX0_init, RX7)]
def zw_NF : List (String × Nat × String × String × String × String) := [(RX2, 130, RX7, "LEAST_SETTING", "[I", RX7), (RX2, 134, RX7, "GREATEST_SETTING", "[I", RX7), (RX4, 55, RX7, "INITIAL_SETTING", "[I", RX7)]
/-- a field of ours, linked at a place of a class's pool -/
def zFld (own : String) (idx ci j : Nat) : Prop := ci < 9 ∧ ∃ (C : String) (T : u_T) (N : Nat), vwCl[ci]? = some (C, T, N) ∧ (∀ x ∈ u_ws C T N, x ∈ zw_T) ∧ j < N ∧ N = zn ci ∧ Cond.fieldLink own idx (T j).1 (T j).2.1 (T j).2.2.1 ∈ zw_T
/-- .. that may be written; its type -/
def zPut (own : String) (idx ci j : Nat) (ty : FieldType) : Prop := ci < 9 ∧ ∃ (C : String) (T : u_T) (N : Nat) (ty0 : Nat → FieldType), vwCl[ci]? = some (C, T, N) ∧ (∀ x ∈ u_ws C T N, x ∈ zw_T) ∧ j < N ∧ N = zn ci ∧ Cond.fieldLink own idx (T j).1 (T j).2.1 (T j).2.2.1 ∈ zw_T ∧ (∀ k, k < N → parseFieldDescriptor (T k).2.2.1 = some (ty0 k)) ∧ (∀ a, a < N → ∀ b, b < N → a ≠ b → (T a).2.1 ≠ (T b).2.1) ∧ (T j).2.2.2 = false ∧ parseFieldDescriptor (T j).2.2.1 = some ty
/-- a virtual call of ours: the words -/
def zMV (own : String) (idx ci : Nat) (y : MethodName) (b : ByteArray) (n : Nat) (ret : Option FieldType) (k : Nat) : Prop :=
  ci < 9 ∧ (∃ q, vwCl[ci]? = some q ∧ q.1 = y.cls) ∧ Cond.methodLink own idx y ∈ zw_T ∧ Cond.instanceMethod y ∈ zw_T ∧ Cond.selects y.cls y y ∈ zw_T ∧ Cond.initialized y.cls ∈ zw_T ∧ Cond.code y b n ret ∈ zw_T ∧ (y.cls ≠ "java/lang/invoke/MethodHandle" ∧ y.cls ≠ "java/lang/invoke/VarHandle") ∧ (parseMethodDescriptor y.desc).map (fun d => d.parameters.length) = some k
/-- a static call of ours: the words -/
def zMS (own : String) (idx : Nat) (y : MethodName) (b : ByteArray) (n : Nat) (ret : Option FieldType) (k : Nat) : Prop :=
  Cond.methodLink own idx y ∈ zw_T ∧ Cond.static y ∈ zw_T ∧ Cond.initialized y.cls ∈ zw_T ∧ Cond.code y b n ret ∈ zw_T ∧ (y.cls ≠ "java/lang/invoke/MethodHandle" ∧ y.cls ≠ "java/lang/invoke/VarHandle") ∧ (parseMethodDescriptor y.desc).map (fun d => d.parameters.length) = some k
/-- a static call of a private method of a nest mate -/
def zMN (own : String) (idx : Nat) (y : MethodName) (host : String) (b : ByteArray) (n : Nat) (ret : Option FieldType) (k : Nat) : Prop :=
  (own, idx, y, host) ∈ zw_NM ∧ Cond.static y ∈ zw_T ∧ Cond.initialized y.cls ∈ zw_T ∧ Cond.code y b n ret ∈ zw_T ∧ (y.cls ≠ "java/lang/invoke/MethodHandle" ∧ y.cls ≠ "java/lang/invoke/VarHandle") ∧ (parseMethodDescriptor y.desc).map (fun d => d.parameters.length) = some k
