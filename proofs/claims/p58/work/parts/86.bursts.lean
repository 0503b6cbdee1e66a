/-! What the law asks of the bursts, answered: sets, ranks, sums; areBursts is 1 where the exchange is as it should be. -/
theorem nct_ins {P Q : Nat → Bool} {x : Nat} : ∀ n, x < n → ¬ P x = true → (∀ k, Q k = true ↔ (P k = true ∨ k = x)) → nct Q n = nct P n + 1 := by
  intro n
  induction n with
  | zero => intro h; omega
  | succ n ih =>
    intro hx hP hQ
    rw [nct_s, nct_s]
    by_cases e : x = n
    · subst e
      have e1 : nct Q x = nct P x := nct_congr x (fun k hk => by
        by_cases hp : P k = true
        · rw [hp, (hQ k).mpr (Or.inl hp)]
        · have hq : ¬ Q k = true := fun z => ((hQ k).mp z).elim hp (fun y => by omega)
          rw [Bool.not_eq_true] at hp hq
          rw [hp, hq])
      rw [if_pos ((hQ x).mpr (Or.inr rfl)), if_neg hP, e1]
    · have h1 := ih (by omega) hP hQ
      by_cases hp : P n = true
      · rw [if_pos ((hQ n).mpr (Or.inl hp)), if_pos hp, h1]
      · rw [if_neg (fun z => ((hQ n).mp z).elim hp (fun y => e y.symm)), if_neg hp, h1]
theorem nct_z : ∀ n, nct (fun _ => false) n = 0 := by
  intro n
  induction n with
  | zero => rfl
  | succ n ih => rw [nct_s, if_neg (by decide)]; exact ih
theorem bf_ir {pr : Nat → Int} {k : Nat} : ¬ bf pr k k := by unfold bf; omega
/-- the place of the p-th -/
theorem Enu.rank {S : Nat → Bool} {pr : Nat → Int} {n c : Nat} {a : Nat → Nat} (h : Enu S pr n c a) : ∀ (p : Nat), p < c → ∀ (R : Nat → Bool), (∀ k, R k = true ↔ (k < n ∧ S k = true ∧ bf pr k (a p))) → nct R n = p := by
  have key : ∀ k j p, j < c → p < c → a j = k → (bf pr k (a p) ↔ j < p) := by
    intro k j p hj hp e
    subst e
    constructor
    · intro z
      rcases Nat.lt_or_ge j p with q | q
      · exact q
      · rcases Nat.lt_or_ge p j with q1 | q1
        · exact absurd z (bf_as (h.2.2.1 p j q1 hj))
        · have : p = j := by omega
          subst this
          exact absurd z bf_ir
    · intro z
      exact h.2.2.1 j p z hp
  intro p
  induction p with
  | zero =>
    intro hp R hR
    have e : nct R n = nct (fun _ => false) n := nct_congr n (fun k hk => by
      have : ¬ R k = true := fun z => by
        obtain ⟨_, z2, z3⟩ := (hR k).mp z
        obtain ⟨j, j1, j2⟩ := h.2.1 k hk z2
        have := (key k j 0 j1 hp j2).mp z3
        omega
      rw [Bool.not_eq_true] at this
      exact this)
    rw [e]
    exact nct_z n
  | succ p ih =>
    intro hp R hR
    have h1 := ih (by omega) (fun k => decide (k < n ∧ S k = true ∧ (pr (a p) < pr k ∨ (pr k = pr (a p) ∧ k < a p)))) (fun k => by rw [decide_eq_true_eq]; exact Iff.rfl)
    rw [nct_ins (P := fun k => decide (k < n ∧ S k = true ∧ (pr (a p) < pr k ∨ (pr k = pr (a p) ∧ k < a p)))) (x := a p) n (h.1 p (by omega)).1 (by rw [decide_eq_true_eq]; exact fun z => bf_ir z.2.2) (fun k => ?_), h1]
    rw [hR k, decide_eq_true_eq]
    constructor
    · rintro ⟨z1, z2, z3⟩
      obtain ⟨j, j1, j2⟩ := h.2.1 k z1 z2
      have hj := (key k j (p + 1) j1 hp j2).mp z3
      rcases Nat.lt_or_ge j p with q | q
      · exact Or.inl ⟨z1, z2, (key k j p j1 (by omega) j2).mpr q⟩
      · have : j = p := by omega
        subst this
        exact Or.inr j2.symm
    · rintro (⟨z1, z2, z3⟩ | z)
      · obtain ⟨j, j1, j2⟩ := h.2.1 k z1 z2
        have hj := (key k j p j1 (by omega) j2).mp z3
        exact ⟨z1, z2, (key k j (p + 1) j1 hp j2).mpr (by omega)⟩
      · subst z
        exact ⟨(h.1 p (by omega)).1, (h.1 p (by omega)).2, h.2.2.1 p (p + 1) (Nat.lt_succ_self p) hp⟩
theorem sFst_is {P : Nat → Bool} {n k : Nat} (hk : k < n) (hP : P k = true) (hu : ∀ j, j < n → P j = true → j = k) : sFst P n = (k : Int) := by
  have key : ∀ m i, i + m = n → i ≤ k → zfs P m i = some k := by
    intro m
    induction m with
    | zero => intro i q1 q2; omega
    | succ m ih =>
      intro i q1 q2
      unfold zfs
      by_cases hp : P i = true
      · rw [if_pos hp, hu i (by omega) hp]
      · rw [if_neg hp]
        refine ih (i + 1) (by omega) ?_
        rcases Nat.lt_or_ge i k with q | q
        · exact q
        · have : i = k := by omega
          subst this
          exact absurd hP hp
  unfold sFst
  rw [key n 0 (Nat.zero_add _) (Nat.zero_le _)]
theorem sFst_no {P : Nat → Bool} {n : Nat} (h : ∀ j, j < n → ¬ P j = true) : sFst P n = -1 := by
  unfold sFst
  rw [zfs_none n 0 (fun k _ hk => h k (by omega))]
/-- sums over those that are so -/
def zsm (P : Nat → Bool) (g : Nat → Int) : Nat → Int
  | 0 => 0
  | n + 1 => zsm P g n + if P n = true then g n else 0
theorem zsm_s {P : Nat → Bool} {g : Nat → Int} {n : Nat} : zsm P g (n + 1) = zsm P g n + if P n = true then g n else 0 := rfl
theorem zsm_congr {P Q : Nat → Bool} {g : Nat → Int} : ∀ n, (∀ k, k < n → P k = Q k) → zsm P g n = zsm Q g n := by
  intro n
  induction n with
  | zero => intro _; rfl
  | succ n ih =>
    intro h
    rw [zsm_s, zsm_s, h n (Nat.lt_succ_self n), ih (fun k hk => h k (by omega))]
theorem zsm_none {P : Nat → Bool} {g : Nat → Int} : ∀ n, (∀ k, k < n → ¬ P k = true) → zsm P g n = 0 := by
  intro n
  induction n with
  | zero => intro _; rfl
  | succ n ih =>
    intro h
    rw [zsm_s, if_neg (h n (Nat.lt_succ_self n)), ih (fun k hk => h k (by omega))]
    rfl
theorem zsm_split {P Q R : Nat → Bool} {g : Nat → Int} : ∀ n, (∀ k, k < n → (R k = true ↔ (P k = true ∨ Q k = true)) ∧ ¬ (P k = true ∧ Q k = true)) → zsm R g n = zsm P g n + zsm Q g n := by
  intro n
  induction n with
  | zero => intro _; rfl
  | succ n ih =>
    intro h
    obtain ⟨h1, h2⟩ := h n (Nat.lt_succ_self n)
    rw [zsm_s, zsm_s, zsm_s, ih (fun k hk => h k (by omega))]
    by_cases hp : P n = true
    · rw [if_pos (h1.mpr (Or.inl hp)), if_pos hp, if_neg (fun z => h2 ⟨hp, z⟩)]
      omega
    · by_cases hq : Q n = true
      · rw [if_pos (h1.mpr (Or.inr hq)), if_neg hp, if_pos hq]
        omega
      · rw [if_neg (fun z => (h1.mp z).elim hp hq), if_neg hp, if_neg hq]
        omega
theorem zit_sm {p : Nat → Prop} {d : ∀ k, Decidable (p k)} {g : Nat → Int} {s : Int} : ∀ n, zit (fun (a : Int) k => if p k then a + g k else a) n s = s + zsm (fun k => decide (p k)) g n := by
  intro n
  induction n with
  | zero => show s = s + 0; omega
  | succ n ih =>
    rw [zit_s, ih, zsm_s]
    by_cases h : p n
    · rw [if_pos h, if_pos (decide_eq_true h)]
      omega
    · rw [if_neg h, if_neg (by rw [decide_eq_true_eq]; exact h)]
      omega
theorem zsm_1 {P : Nat → Bool} : ∀ n, zsm P (fun _ => 1) n = ((nct P n : Nat) : Int) := by
  intro n
  induction n with
  | zero => rfl
  | succ n ih =>
    rw [zsm_s, nct_s, ih]
    by_cases h : P n = true
    · rw [if_pos h, if_pos h]
      omega
    · rw [if_neg h, if_neg h]
      omega
/-- the active calls of a carrier -/
def aOn (v : Nat → Nat → Int) (c : Int) : Nat → Bool := fun k => decide (v (25 + k) 5 = 1 ∧ v (25 + k) 6 = c)
theorem sOn_sm {v : Nat → Nat → Int} {c : Int} {g : Nat → Int} : sOn v c g = zsm (aOn v c) g (nCl v) := by
  unfold sOn
  rw [zit_sm]
  unfold aOn
  omega
/-- all carriers together -/
theorem zsm_all {v : Nat → Nat → Int} {g : Nat → Int} {N : Nat} : ∀ C : Nat, zit (fun (a : Int) c => a + zsm (aOn v (c : Int)) g N) C 0 = zsm (fun k => decide (v (25 + k) 5 = 1 ∧ 0 ≤ v (25 + k) 6 ∧ v (25 + k) 6 < (C : Int))) g N := by
  intro C
  induction C with
  | zero =>
    rw [zsm_none N (fun k _ => by rw [decide_eq_true_eq]; omega)]
    rfl
  | succ C ih =>
    rw [zit_s, ih]
    refine (zsm_split N (fun k _ => ⟨?_, ?_⟩)).symm
    · unfold aOn
      rw [decide_eq_true_eq, decide_eq_true_eq, decide_eq_true_eq]
      omega
    · unfold aOn
      rw [decide_eq_true_eq, decide_eq_true_eq]
      omega
theorem zit_pair {f g : Nat → Int} {s : Int × Int} : ∀ n, zit (fun (p : Int × Int) c => (p.1 - f c, p.2 + g c)) n s = (s.1 - zit (fun (a : Int) c => a + f c) n 0, s.2 + zit (fun (a : Int) c => a + g c) n 0) := by
  intro n
  induction n with
  | zero => show s = (s.1 - 0, s.2 + 0); rw [Int.sub_zero, Int.add_zero]
  | succ n ih =>
    rw [zit_s, ih, zit_s, zit_s]
    refine Prod.ext ?_ ?_
    · show s.1 - _ - f n = s.1 - (_ + f n)
      omega
    · show s.2 + _ + g n = s.2 + (_ + g n)
      omega
/-- what is asked beyond what holds anyway: long bursts, ends ahead -/
def Ex1 (v : Nat → Nat → Int) : Prop := v 1 3 = 20 ∧ (∀ k : Nat, (k : Int) < v 0 7 → 21 ≤ v (25 + k) 3) ∧ ∀ k : Nat, (k : Int) < v 0 7 → v (25 + k) 5 ≠ 2 → v (25 + k) 9 ≠ -1 → v 0 0 < v (25 + k) 9 + v (25 + k) 4
theorem ite_ap {α : Type} {a b c d : Int} {X Y : α} (h : a ≤ b ∨ d ≤ c) : (if a ≤ b then X else if c < d then Y else X) = X := by
  by_cases h1 : a ≤ b
  · rw [if_pos h1]
  · rw [if_neg h1, if_neg (by omega)]
theorem if_t2 {α : Type} {p : Prop} [Decidable p] {X : α} : (if p then X else X) = X := by
  by_cases h1 : p
  · rw [if_pos h1]
  · rw [if_neg h1]
theorem ite_xx {α : Type} {p q : Prop} [Decidable p] [Decidable q] {X : α} : (if p then X else if q then X else X) = X := by
  by_cases h1 : p
  · rw [if_pos h1]
  · rw [if_neg h1]
    by_cases h2 : q
    · rw [if_pos h2]
    · rw [if_neg h2]
section AB58
variable {B : Nat} {h : zH} {w : zW}
/-- two active calls that meet are apart -/
theorem gi_ap (hI : zInv B h) {k j : Nat} (hk : (k : Int) < vw h.1 (B + 1) 0 7) (hj : (j : Int) < vw h.1 (B + 1) 0 7) (hne : j ≠ k) (h5 : vw h.1 (B + 1) (25 + k) 5 = 1) (j5 : vw h.1 (B + 1) (25 + j) 5 = 1)
    (hm : vw h.1 (B + 1) (25 + j) 6 = vw h.1 (B + 1) (25 + k) 6 ∨ vw h.1 (B + 1) (25 + j) 0 = vw h.1 (B + 1) (25 + k) 0 ∨ vw h.1 (B + 1) (25 + j) 1 = vw h.1 (B + 1) (25 + k) 1) :
    vw h.1 (B + 1) (25 + k) 7 + vw h.1 (B + 1) (25 + k) 3 + vw h.1 (B + 1) 1 1 ≤ vw h.1 (B + 1) (25 + j) 7 ∨ vw h.1 (B + 1) (25 + j) 7 + vw h.1 (B + 1) (25 + j) 3 + vw h.1 (B + 1) 1 1 ≤ vw h.1 (B + 1) (25 + k) 7 :=
  hI.2.2.2.1.2.1 k j hk hj (fun z => hne z.symm) h5 j5 hm
def mSet (v : Nat → Nat → Int) (k : Nat) : Nat → Bool := fun j => decide (j ≠ k ∧ v (25 + k) 5 = 1 ∧ v (25 + j) 5 = 1 ∧ (v (25 + j) 6 = v (25 + k) 6 ∨ v (25 + j) 0 = v (25 + k) 0 ∨ v (25 + j) 1 = v (25 + k) 1))
theorem ab_inner (hI : zInv B h) {k : Nat} (hk : (k : Int) < vw h.1 (B + 1) 0 7) (hk5 : vw h.1 (B + 1) (25 + k) 5 = 1) {u : Int} {K : Int → Int → Option Int} :
    q_L_areBursts_L185 w h B (vw h.1 (B + 1) 1 1) u (k : Int) (vw h.1 (B + 1) (25 + k) 7) K zF 0 0 = K ((nset (mSet (vw h.1 (B + 1)) k) (nCl (vw h.1 (B + 1))) : Nat) : Int) (nCl (vw h.1 (B + 1)) : Int) := by
  have hw := hI.wf
  have hn := hw.nC
  have hset := hw.set
  have hka := hw.act hk hk5
  have hkb := (hw.2.2.2.2.2.2.2.2 k hk).2.2.2.2.1
  have hP : ∀ j, mSet (vw h.1 (B + 1)) k j = true ↔ (j ≠ k ∧ vw h.1 (B + 1) (25 + k) 5 = 1 ∧ vw h.1 (B + 1) (25 + j) 5 = 1 ∧ (vw h.1 (B + 1) (25 + j) 6 = vw h.1 (B + 1) (25 + k) 6 ∨ vw h.1 (B + 1) (25 + j) 0 = vw h.1 (B + 1) (25 + k) 0 ∨ vw h.1 (B + 1) (25 + j) 1 = vw h.1 (B + 1) (25 + k) 1)) := fun j => decide_eq_true_iff
  refine zsetloop (L := fun f a i => q_L_areBursts_L185 w h B (vw h.1 (B + 1) 1 1) u (k : Int) (vw h.1 (B + 1) (25 + k) 7) K f a i) (kf := fun a => K a (nCl (vw h.1 (B + 1)) : Int)) (mSet (vw h.1 (B + 1)) k) hn.2 (fun f i hi => ?_) (fun f => ?_)
  · have hi7 : (i : Int) < vw h.1 (B + 1) 0 7 := by omega
    have hb16 : nset (mSet (vw h.1 (B + 1)) k) i < 65536 := nset_16 (by omega)
    show q_L_areBursts_L185 w h B _ u (k : Int) _ K (f + 1) _ (i : Int) = _
    rw [q_L_areBursts_L185]
    simp only [zlet_b]
    rw [x_count hI, zbp_some, if_neg (by omega), zw_s (i := i) (by omega)]
    by_cases e : (i : Int) = (k : Int)
    · rw [if_pos e, if_neg (fun z => ((hP i).mp z).1 (by omega))]
    · rw [if_neg e, x_state hI hi7, zbp_some]
      by_cases h5 : vw h.1 (B + 1) (25 + i) 5 = 1
      · have hia := hw.act hi7 h5
        have hib := (hw.2.2.2.2.2.2.2.2 i hi7).2.2.2.2.1
        have e1 : zw (zw (vw h.1 (B + 1) (25 + k) 7 + vw h.1 (B + 1) (25 + k) 3) + vw h.1 (B + 1) 1 1) = vw h.1 (B + 1) (25 + k) 7 + vw h.1 (B + 1) (25 + k) 3 + vw h.1 (B + 1) 1 1 := by
          rw [zw_id (x := vw h.1 (B + 1) (25 + k) 7 + vw h.1 (B + 1) (25 + k) 3) ⟨by omega, by omega⟩, zw_id ⟨by omega, by omega⟩]
        have e2 : zw (zw (vw h.1 (B + 1) (25 + i) 7 + vw h.1 (B + 1) (25 + i) 3) + vw h.1 (B + 1) 1 1) = vw h.1 (B + 1) (25 + i) 7 + vw h.1 (B + 1) (25 + i) 3 + vw h.1 (B + 1) 1 1 := by
          rw [zw_id (x := vw h.1 (B + 1) (25 + i) 7 + vw h.1 (B + 1) (25 + i) 3) ⟨by omega, by omega⟩, zw_id ⟨by omega, by omega⟩]
        have c1 : q_X7_carrierOf h B (i : Int) = some (vw h.1 (B + 1) (25 + i) 6) := by rw [x_carr hI hi7, if_pos h5]
        have c2 : q_X7_carrierOf h B (k : Int) = some (vw h.1 (B + 1) (25 + k) 6) := by rw [x_carr hI hk, if_pos hk5]
        have c3 : q_X7_startOf h B (i : Int) = some (vw h.1 (B + 1) (25 + i) 7) := by rw [x_start hI hi7, if_pos h5]
        rw [if_pos h5, c1, c2]
        simp only [zbp_some, c3, x_sender hI hi7, x_sender hI hk, x_recv hI hi7, x_recv hI hk, x_burst hI hi7, x_burst hI hk]
        rw [e1, e2, zor_z hb16]
        simp only [if_neg one0, if_pos (rfl : (0 : Int) = 0)]
        have hap := gi_ap hI hk hi7 (by omega) hk5 h5
        by_cases q6 : vw h.1 (B + 1) (25 + i) 6 = vw h.1 (B + 1) (25 + k) 6
        · rw [if_pos q6, if_pos ((hP i).mpr ⟨by omega, hk5, h5, Or.inl q6⟩)]
          exact ite_ap (hap (Or.inl q6))
        · rw [if_neg q6]
          by_cases q0 : vw h.1 (B + 1) (25 + i) 0 = vw h.1 (B + 1) (25 + k) 0
          · rw [if_pos q0, if_pos ((hP i).mpr ⟨by omega, hk5, h5, Or.inr (Or.inl q0)⟩)]
            exact ite_ap (hap (Or.inr (Or.inl q0)))
          · rw [if_neg q0]
            by_cases q1 : vw h.1 (B + 1) (25 + i) 1 = vw h.1 (B + 1) (25 + k) 1
            · rw [if_pos q1, if_pos ((hP i).mpr ⟨by omega, hk5, h5, Or.inr (Or.inr q1)⟩)]
              exact ite_ap (hap (Or.inr (Or.inr q1)))
            · rw [if_neg q1, if_neg (fun z => ((hP i).mp z).2.2.2.elim q6 (fun y => y.elim q0 q1))]
              exact ite_xx
      · rw [if_neg h5, if_neg (fun z => h5 ((hP i).mp z).2.2.1)]
  · show q_L_areBursts_L185 w h B _ u (k : Int) _ K (f + 1) _ (nCl (vw h.1 (B + 1)) : Int) = _
    rw [q_L_areBursts_L185, x_count hI, zbp_some, hn.1, if_pos (Int.le_refl _)]
/-- the first loop: each call by itself, and beside all others -/
theorem ab_L10 (hI : zInv B h) (X : Ex1 (vw h.1 (B + 1))) {K : Int → Int → Option Int} :
    q_L_areBursts_L10 w h B (vw h.1 (B + 1) 1 1) K zF 0 0 = K (zsm (fun k => decide (vw h.1 (B + 1) (25 + k) 5 = 1)) (fun k => vw h.1 (B + 1) (25 + k) 3) (nCl (vw h.1 (B + 1)))) (nCl (vw h.1 (B + 1)) : Int) := by
  have hw := hI.wf
  have hG := hI.2.2.2.1.2
  have hn := hw.nC
  have hset := hw.set
  have s3 : q_X7_getSetting h B 3 = some (vw h.1 (B + 1) 1 3) := x_set hI (j := 3) (by decide)
  have s2 : q_X7_getSetting h B 2 = some (vw h.1 (B + 1) 1 2) := x_set hI (j := 2) (by decide)
  have s0 : q_X7_getSetting h B 0 = some (vw h.1 (B + 1) 1 0) := x_set hI (j := 0) (by decide)
  have key := zloopQ (L := fun f a i => q_L_areBursts_L10 w h B (vw h.1 (B + 1) 1 1) K f a i) (kf := fun a => K a (nCl (vw h.1 (B + 1)) : Int)) (s0 := 0) (N := nCl (vw h.1 (B + 1))) (fun (a : Int) k => if vw h.1 (B + 1) (25 + k) 5 = 1 then a + vw h.1 (B + 1) (25 + k) 3 else a) (fun i (a : Int) => 0 ≤ a ∧ a ≤ 2200 * (i : Int)) (by omega) ⟨by omega, by omega⟩ (fun a i hi ha => ?_) (fun f a i hi ha => ?_) (fun f a ha => ?_)
  · refine key.trans ?_
    show K _ _ = K _ _
    rw [zit_sm, Int.zero_add]
  · have hb := (hw.2.2.2.2.2.2.2.2 i (by omega)).2.2.2.2.1
    split <;> omega
  · have hi7 : (i : Int) < vw h.1 (B + 1) 0 7 := by omega
    have hc := hw.2.2.2.2.2.2.2.2 i hi7
    have hb := hc.2.2.2.2.1
    have x2 := X.2.1 i hi7
    have ea : zw (a + vw h.1 (B + 1) (25 + i) 3) = a + vw h.1 (B + 1) (25 + i) 3 := zw_id ⟨by omega, by omega⟩
    show q_L_areBursts_L10 w h B _ K (f + 1) a (i : Int) = _
    rw [q_L_areBursts_L10]
    simp only [zlet_b]
    rw [x_count hI, zbp_some, if_neg (by omega), x_burst hI hi7, zbp_some, s3, zbp_some, X.1, if_neg (by omega), x_sender hI hi7, zbp_some, x_recv hI hi7, zbp_some, if_neg hc.2.2.1, x_state hI hi7, zbp_some, zw_s (i := i) (by omega)]
    by_cases h5 : vw h.1 (B + 1) (25 + i) 5 = 1
    · have hia := hw.act hi7 h5
      have x3 := X.2.2 i hi7 (by omega) (by omega)
      have c1 : q_X7_carrierOf h B (i : Int) = some (vw h.1 (B + 1) (25 + i) 6) := by rw [x_carr hI hi7, if_pos h5]
      have c3 : q_X7_startOf h B (i : Int) = some (vw h.1 (B + 1) (25 + i) 7) := by rw [x_start hI hi7, if_pos h5]
      have c4 : q_X7_endOf h B (i : Int) = some (vw h.1 (B + 1) (25 + i) 9 + vw h.1 (B + 1) (25 + i) 4) := by rw [x_end hI hi7, if_pos h5]
      have e0 : zw (vw h.1 (B + 1) 1 2 + vw h.1 (B + 1) 1 1) = vw h.1 (B + 1) 1 2 + vw h.1 (B + 1) 1 1 := zw_id ⟨by omega, by omega⟩
      have e1 : zw (vw h.1 (B + 1) (25 + i) 7 + vw h.1 (B + 1) (25 + i) 3) = vw h.1 (B + 1) (25 + i) 7 + vw h.1 (B + 1) (25 + i) 3 := zw_id ⟨by omega, by omega⟩
      have e2 : zw (vw h.1 (B + 1) (25 + i) 7 + vw h.1 (B + 1) (25 + i) 3 + vw h.1 (B + 1) 1 1) = vw h.1 (B + 1) (25 + i) 7 + vw h.1 (B + 1) (25 + i) 3 + vw h.1 (B + 1) 1 1 := zw_id ⟨by omega, by omega⟩
      obtain ⟨c, hcn⟩ : ∃ c : Nat, vw h.1 (B + 1) (25 + i) 6 = (c : Int) := ⟨(vw h.1 (B + 1) (25 + i) 6).toNat, by omega⟩
      have ov1 : q_X7_callOver h B (c : Int) (vw h.1 (B + 1) (25 + i) 7) = some (i : Int) := by
        rw [x_over hI (by omega), sFst_is hi (decide_eq_true ⟨h5, hcn, Int.le_refl _, by omega⟩) (fun j hj hp => ?_)]
        obtain ⟨p1, p2, p3, p4⟩ := of_decide_eq_true hp
        refine Decidable.byContradiction fun hne => ?_
        have := gi_ap hI hi7 (by omega) hne h5 p1 (Or.inl (p2.trans hcn.symm))
        have hjb := (hw.2.2.2.2.2.2.2.2 j (by omega)).2.2.2.2.1
        omega
      rw [if_pos h5, zbp_some, ea, c3, zbp_some, s2, zbp_some, e0, if_neg (by omega)]
      simp only [zbp_some, x_burst hI hi7, s0, c4, x_now hI]
      rw [e1, e2, if_neg (by omega), if_pos x3, ab_inner hI hi7 h5, x_conf hI hi7, zbp_some]
      rw [show (fun k => decide (k ≠ i ∧ vw h.1 (B + 1) (25 + i) 5 = 1 ∧ vw h.1 (B + 1) (25 + k) 5 = 1 ∧ (vw h.1 (B + 1) (25 + k) 6 = vw h.1 (B + 1) (25 + i) 6 ∨ vw h.1 (B + 1) (25 + k) 0 = vw h.1 (B + 1) (25 + i) 0 ∨ vw h.1 (B + 1) (25 + k) 1 = vw h.1 (B + 1) (25 + i) 1))) = mSet (vw h.1 (B + 1)) i from rfl, if_pos rfl, c1, zbp_some, hcn, ov1, zbp_some, if_pos rfl, zbp_some]
      by_cases g0 : vw h.1 (B + 1) 1 1 ≤ 0
      · rw [x_over hI (by omega), zbp_some, if_pos g0, if_pos h5]
        exact if_t2
      · have ov2 : q_X7_callOver h B (c : Int) (vw h.1 (B + 1) (25 + i) 7 + vw h.1 (B + 1) (25 + i) 3) = some (-1) := by
          rw [x_over hI (by omega), sFst_no (fun j hj hp => ?_)]
          obtain ⟨p1, p2, p3, p4⟩ := of_decide_eq_true hp
          by_cases hne : j = i
          · subst hne
            omega
          · have := gi_ap hI hi7 (by omega) hne h5 p1 (Or.inl (p2.trans hcn.symm))
            omega
        rw [ov2, zbp_some, if_pos rfl, if_pos h5]
    · have c1 : q_X7_carrierOf h B (i : Int) = some (-1) := by rw [x_carr hI hi7, if_neg h5]
      have c3 : q_X7_startOf h B (i : Int) = some (-1) := by rw [x_start hI hi7, if_neg h5]
      have c4 : q_X7_endOf h B (i : Int) = some (-1) := by rw [x_end hI hi7, if_neg h5]
      have c5 : q_X7_sendOffset h B (i : Int) = some (-1) := by
        rw [x_send hI hi7]
        unfold sSnd
        rw [if_neg h5]
      have c6 : q_X7_conflicts h B (i : Int) = some 0 := by
        rw [x_conf hI hi7, nset_none _ (fun k _ z => h5 (of_decide_eq_true z).2.1)]
        rfl
      rw [if_neg h5, c1, zbp_some, if_pos rfl, c3, zbp_some, if_pos rfl, c4, zbp_some, if_pos rfl, c5, zbp_some, if_pos rfl, c6, zbp_some, if_pos rfl, zbp_some, if_neg h5]
      by_cases h0 : vw h.1 (B + 1) (25 + i) 5 = 0
      · rw [if_pos h0, x_fits hI hi7 h0 hG.2.1, zbp_some, if_pos rfl]
      · rw [if_neg h0]
  · show q_L_areBursts_L10 w h B _ K (f + 1) a (nCl (vw h.1 (B + 1)) : Int) = _
    rw [q_L_areBursts_L10, x_count hI, zbp_some, hn.1, if_pos (Int.le_refl _)]
end AB58
