/-! The pure side: what the terms of class and reference say of one another. -/
theorem zput_1 {h : zH} {a j : Nat} {x : Int} {b i : Nat} : (zput h a j x).1 b i = if b = a ∧ i = j then x else h.1 b i := rfl
theorem zput_ne {h : zH} {a j : Nat} {x : Int} {b i : Nat} (hn : ¬ (b = a ∧ i = j)) : (zput h a j x).1 b i = h.1 b i := by rw [zput_1, if_neg hn]
theorem zput_2 {h : zH} {a j : Nat} {x : Int} : (zput h a j x).2 = h.2 := rfl
/-- f over 0 .. n - 1 -/
def zit {σ : Type} (f : σ → Nat → σ) : Nat → σ → σ
  | 0, s => s
  | n + 1, s => f (zit f n s) n
theorem zit_s {σ : Type} {f : σ → Nat → σ} {n : Nat} {s : σ} : zit f (n + 1) s = f (zit f n s) n := rfl
theorem zloop {σ ρ : Type} {L : Nat → σ → Int → ρ} {N : Nat} {f : σ → Nat → σ} {s0 : σ} {kf : σ → ρ}
    (h1 : ∀ n i, i < N → L (n + 1) (zit f i s0) (i : Int) = L n (zit f (i + 1) s0) ((i + 1 : Nat) : Int))
    (h2 : ∀ n, L (n + 1) (zit f N s0) (N : Int) = kf (zit f N s0)) : ∀ n i, i ≤ N → N < n + i → L n (zit f i s0) (i : Int) = kf (zit f N s0) := by
  intro n
  induction n with
  | zero => intro i q1 q2; omega
  | succ n ih =>
    intro i q1 q2
    rcases Nat.lt_or_ge i N with q | q
    · rw [h1 n i q]
      exact ih (i + 1) q (by omega)
    · have e : i = N := by omega
      subst e
      exact h2 n
theorem zloop0 {σ ρ : Type} {L : Nat → σ → Int → ρ} {N : Nat} (f : σ → Nat → σ) {s0 : σ} {kf : σ → ρ} (hN : N < 100000)
    (h1 : ∀ n i, i < N → L (n + 1) (zit f i s0) (i : Int) = L n (zit f (i + 1) s0) ((i + 1 : Nat) : Int))
    (h2 : ∀ n, L (n + 1) (zit f N s0) (N : Int) = kf (zit f N s0)) : L zF s0 0 = kf (zit f N s0) :=
  zloop h1 h2 zF 0 (Nat.zero_le _) (by unfold zF; omega)
/-- the first of 0 .. n - 1 that is so -/
def zfs (P : Nat → Bool) : Nat → Nat → Option Nat
  | 0, _ => none
  | m + 1, i => if P i = true then some i else zfs P m (i + 1)
theorem zfind {ρ : Type} {L : Nat → Int → ρ} {N : Nat} (P : Nat → Bool) {r : Nat → ρ} {kf : ρ}
    (h1 : ∀ n i, i < N → L (n + 1) (i : Int) = if P i = true then r i else L n ((i + 1 : Nat) : Int))
    (h2 : ∀ n, L (n + 1) (N : Int) = kf) : ∀ m n i, i + m = N → m < n → L n (i : Int) = match zfs P m i with | none => kf | some k => r k := by
  intro m
  induction m with
  | zero =>
    intro n i q1 q2
    have e : i = N := by omega
    subst e
    obtain ⟨n', rfl⟩ : ∃ n', n = n' + 1 := ⟨n - 1, by omega⟩
    exact h2 n'
  | succ m ih =>
    intro n i q1 q2
    obtain ⟨n', rfl⟩ : ∃ n', n = n' + 1 := ⟨n - 1, by omega⟩
    rw [h1 n' i (by omega)]
    unfold zfs
    by_cases hp : P i = true
    · rw [if_pos hp, if_pos hp]
    · rw [if_neg hp, if_neg hp]
      exact ih n' (i + 1) (by omega) (by omega)
theorem zfind0 {ρ : Type} {L : Nat → Int → ρ} {N : Nat} (P : Nat → Bool) {r : Nat → ρ} {kf : ρ} (hN : N < 100000)
    (h1 : ∀ n i, i < N → L (n + 1) (i : Int) = if P i = true then r i else L n ((i + 1 : Nat) : Int))
    (h2 : ∀ n, L (n + 1) (N : Int) = kf) : L zF 0 = match zfs P N 0 with | none => kf | some k => r k :=
  zfind P h1 h2 N zF 0 (Nat.zero_add _) (by unfold zF; omega)
theorem zfs_congr {P Q : Nat → Bool} : ∀ (m i : Nat), (∀ k, i ≤ k → k < i + m → P k = Q k) → zfs P m i = zfs Q m i := by
  intro m
  induction m with
  | zero => intro i _; rfl
  | succ m ih =>
    intro i h
    unfold zfs
    rw [h i (Nat.le_refl _) (by omega), ih (i + 1) (fun k q1 q2 => h k (by omega) (by omega))]
theorem zit_congr {σ : Type} {f g : σ → Nat → σ} {s : σ} : ∀ n, (∀ i, i < n → ∀ x, f x i = g x i) → zit f n s = zit g n s := by
  intro n
  induction n with
  | zero => intro _; rfl
  | succ n ih =>
    intro h
    rw [zit_s, zit_s, ih (fun i q x => h i (by omega) x), h n (by omega)]
theorem zit_inv {σ : Type} {f : σ → Nat → σ} {s : σ} (P : Nat → σ → Prop) (h0 : P 0 s) : ∀ n, (∀ i, i < n → ∀ x, P i x → P (i + 1) (f x i)) → P n (zit f n s) := by
  intro n
  induction n with
  | zero => intro _; exact h0
  | succ n ih =>
    intro h
    rw [zit_s]
    exact h n (by omega) _ (ih (fun i q x hx => h i (by omega) x hx))
theorem zw_s {i : Nat} (h : i < 1000000) : zw ((i : Int) + 1) = ((i + 1 : Nat) : Int) := by rw [zw_id ⟨by omega, by omega⟩]; omega
/-- where a State's cells lie -/
def cly (r : Nat → Nat → Nat) (A : Nat) : Prop := ∀ o, o < 41 → ∀ j, r (A + o) j = A + skO o j
theorem cly.set {r : Nat → Nat → Nat} {A : Nat} (h : cly r A) : r A 2 = A + 1 := h 0 (by decide) 2
theorem cly.sts {r : Nat → Nat → Nat} {A : Nat} (h : cly r A) : r A 4 = A + 2 := h 0 (by decide) 4
theorem cly.rns {r : Nat → Nat → Nat} {A : Nat} (h : cly r A) : r A 6 = A + 3 := h 0 (by decide) 6
theorem cly.cls {r : Nat → Nat → Nat} {A : Nat} (h : cly r A) : r A 8 = A + 4 := h 0 (by decide) 8
theorem cly.st {r : Nat → Nat → Nat} {A : Nat} (h : cly r A) (s : Nat) : r (A + 2) s = A + (5 + 2 * s) := h 2 (by decide) s
theorem cly.rn {r : Nat → Nat → Nat} {A : Nat} (h : cly r A) (s : Nat) : r (A + 3) s = A + (17 + s) := h 3 (by decide) s
theorem cly.cl {r : Nat → Nat → Nat} {A : Nat} (h : cly r A) (k : Nat) : r (A + 4) k = A + (25 + k) := h 4 (by decide) k
theorem cly.er {r : Nat → Nat → Nat} {A : Nat} (h : cly r A) {s : Nat} (hs : s < 6) : r (A + (5 + 2 * s)) 7 = A + (6 + 2 * s) := by
  have e := h (5 + 2 * s) (by omega) 7
  rw [e]
  unfold skO
  rw [if_neg (by omega), if_neg (by omega), if_neg (by omega), if_neg (by omega), if_pos rfl]
  omega
/-- where the reference's rows lie -/
def mly (r : Nat → Nat → Nat) (M : Nat) : Prop := ∀ j, r M j = M + sm_O j
/-- a State's numbers -/
def vw (g : Nat → Nat → Int) (A : Nat) : Nat → Nat → Int := fun o j => if o < 41 then g (A + o) j else 0
theorem vw_at {g : Nat → Nat → Int} {A o j : Nat} (ho : o < 41) : vw g A o j = g (A + o) j := by unfold vw; rw [if_pos ho]
theorem vw_ext {g g' : Nat → Nat → Int} {A A' : Nat} (h : ∀ o, o < 41 → ∀ j, g (A + o) j = g' (A' + o) j) : vw g A = vw g' A' := by
  funext o j
  unfold vw
  by_cases ho : o < 41
  · rw [if_pos ho, if_pos ho, h o ho j]
  · rw [if_neg ho, if_neg ho]
def WFs (v : Nat → Nat → Int) (s : Nat) : Prop := (0 ≤ v (5 + 2 * s) 1 ∧ v (5 + 2 * s) 1 ≤ 5000) ∧ (-50 ≤ v (5 + 2 * s) 2 ∧ v (5 + 2 * s) 2 ≤ 50) ∧ (0 ≤ v (5 + 2 * s) 3 ∧ v (5 + 2 * s) 3 ≤ v (5 + 2 * s) 4 ∧ v (5 + 2 * s) 4 ≤ 999) ∧ (0 ≤ v (5 + 2 * s) 5 ∧ v (5 + 2 * s) 5 ≤ 999) ∧ (0 ≤ v (5 + 2 * s) 6 ∧ v (5 + 2 * s) 6 ≤ v 0 0) ∧ ∀ j, j < 64 → -100000 ≤ v (6 + 2 * s) j ∧ v (6 + 2 * s) j ≤ 100000
def WFr (v : Nat → Nat → Int) (r : Nat) : Prop := (0 ≤ v (17 + r) 0 ∧ v (17 + r) 0 < v 0 3) ∧ (0 ≤ v (17 + r) 1 ∧ v (17 + r) 1 ≤ v (17 + r) 2 ∧ v (17 + r) 2 ≤ 9999) ∧ (1 ≤ v (17 + r) 3 ∧ v (17 + r) 3 ≤ 400)
def WFc (v : Nat → Nat → Int) (k : Nat) : Prop := (0 ≤ v (25 + k) 0 ∧ v (25 + k) 0 < v 0 3) ∧ (0 ≤ v (25 + k) 1 ∧ v (25 + k) 1 < v 0 3) ∧ v (25 + k) 0 ≠ v (25 + k) 1 ∧ (0 ≤ v (25 + k) 2 ∧ v (25 + k) 2 ≤ 9) ∧ (2 ≤ v (25 + k) 3 ∧ v (25 + k) 3 ≤ 2200) ∧ (1 ≤ v (25 + k) 4 ∧ v (25 + k) 4 ≤ 9999) ∧ (v (25 + k) 5 = 0 ∨ v (25 + k) 5 = 1 ∨ v (25 + k) 5 = 2) ∧ (0 ≤ v (25 + k) 8 ∧ v (25 + k) 8 ≤ v 0 0) ∧ (-1 ≤ v (25 + k) 9 ∧ v (25 + k) 9 ≤ v 0 0) ∧ (0 ≤ v (25 + k) 10 ∧ v (25 + k) 10 ≤ v 0 0)
  ∧ True ∧ (v (25 + k) 5 = 1 → 0 ≤ v (25 + k) 9 ∧ (0 ≤ v (25 + k) 6 ∧ v (25 + k) 6 < v 0 1) ∧ (v 1 2 + v 1 1 ≤ v (25 + k) 7 ∧ v (25 + k) 7 + v (25 + k) 3 + v 1 1 ≤ v 1 0))
/-- a State as it can be -/
def WF (v : Nat → Nat → Int) : Prop := (0 ≤ v 0 0 ∧ v 0 0 ≤ 9999) ∧ (1 ≤ v 0 1 ∧ v 0 1 ≤ 4) ∧ (0 ≤ v 0 3 ∧ v 0 3 ≤ 6) ∧ (0 ≤ v 0 5 ∧ v 0 5 ≤ 8) ∧ (0 ≤ v 0 7 ∧ v 0 7 ≤ 16) ∧ (∀ j, j < 7 → zsV 0 j ≤ v 1 j ∧ v 1 j ≤ zsV 1 j)
  ∧ (∀ s : Nat, (s : Int) < v 0 3 → WFs v s) ∧ (∀ r : Nat, (r : Int) < v 0 5 → WFr v r) ∧ ∀ k : Nat, (k : Int) < v 0 7 → WFc v k
/-- a row of the reference and what it was told, beside a State -/
def MRs (v : Nat → Nat → Int) (N T : Nat → Int) (s : Nat) : Prop := T s = v (5 + 2 * s) 0 ∧ T (6 + s) = v (5 + 2 * s) 1 ∧ T (12 + s) = v (5 + 2 * s) 2 ∧ T (18 + s) = v (5 + 2 * s) 3 ∧ T (24 + s) = v (5 + 2 * s) 4 ∧ N (8 + s) = v (5 + 2 * s) 5 ∧ N (14 + s) = v (5 + 2 * s) 6 ∧ ∀ j, j < 64 → N (20 + 64 * s + j) = v (6 + 2 * s) j
def MRr (v : Nat → Nat → Int) (T : Nat → Int) (r : Nat) : Prop := T (30 + r) = v (17 + r) 0 ∧ T (38 + r) = v (17 + r) 1 ∧ T (46 + r) = v (17 + r) 2 ∧ T (54 + r) = v (17 + r) 3
def MRc (v : Nat → Nat → Int) (N : Nat → Int) (k : Nat) : Prop := N (405 + 12 * k) = v (25 + k) 0 ∧ N (405 + 12 * k + 1) = v (25 + k) 1 ∧ N (405 + 12 * k + 2) = v (25 + k) 2 ∧ N 4 + N (405 + 12 * k + 3) = v (25 + k) 3 ∧ N (405 + 12 * k + 4) = v (25 + k) 4 ∧ N (405 + 12 * k + 5) = v (25 + k) 5 ∧ N (405 + 12 * k + 9) = v (25 + k) 8 ∧ N (405 + 12 * k + 10) = v (25 + k) 9 ∧ N (405 + 12 * k + 11) = v (25 + k) 10
  ∧ (v (25 + k) 5 = 1 → N (405 + 12 * k + 6) = v (25 + k) 6 ∧ N (405 + 12 * k + 7) = v (25 + k) 7 ∧ N (405 + 12 * k + 8) = v (25 + k) 9 + v (25 + k) 4)
def MR (v : Nat → Nat → Int) (N T : Nat → Int) : Prop := N 0 = v 0 0 ∧ T 64 = v 0 1 ∧ T 62 = v 0 3 ∧ T 63 = v 0 5 ∧ N 404 = v 0 7 ∧ (∀ j, j < 7 → N (1 + j) = v 1 j) ∧ (∀ s : Nat, (s : Int) < v 0 3 → MRs v N T s) ∧ (∀ r : Nat, (r : Int) < v 0 5 → MRr v T r) ∧ ∀ k : Nat, (k : Int) < v 0 7 → MRc v N k
/-- class and reference hold the same: the State at A, the reference at M -/
def CV (h : zH) (A : Nat) : Prop := cly h.2 A ∧ WF (vw h.1 A)
def MVt (h : zH) (M : Nat) (v : Nat → Nat → Int) (T : Nat → Int) : Prop := mly h.2 M ∧ WF v ∧ MR v (h.1 (M + 4)) T
abbrev MV (h : zH) (M : Nat) (v : Nat → Nat → Int) : Prop := MVt h M v (h.1 (M + 2))
theorem MV.put {h : zH} {M : Nat} {v : Nat → Nat → Int} (hm : MV h M v) {a j : Nat} {x : Int} (h4 : a ≠ M + 4) (h2 : a ≠ M + 2) : MV (zput h a j x) M v := by
  obtain ⟨q1, q2, q3⟩ := hm
  refine ⟨q1, q2, ?_⟩
  have e4 : (zput h a j x).1 (M + 4) = h.1 (M + 4) := by funext i; exact zput_ne (fun q => h4 q.1.symm)
  have e2 : (zput h a j x).1 (M + 2) = h.1 (M + 2) := by funext i; exact zput_ne (fun q => h2 q.1.symm)
  rw [e4, e2]
  exact q3
section EV
variable {h : zH} {A M : Nat} {v : Nat → Nat → Int}
theorem mly.told (hm : mly h.2 M) : h.2 M 3 = M + 2 := hm 3
theorem mly.now (hm : mly h.2 M) : h.2 M 5 = M + 4 := hm 5
/-- a call's number in the reference -/
theorem e8_of (hm : mly h.2 M) {k j : Nat} (hk : k < 16) (hj : j < 12) : q_X8_of h M (k : Int) (j : Int) = some (h.1 (M + 4) (405 + 12 * k + j)) := by
  have e : zw (zw (405 + zw (12 * (k : Int))) + (j : Int)) = ((405 + 12 * k + j : Nat) : Int) := by
    rw [zw_id (x := 12 * (k : Int)) ⟨by omega, by omega⟩, zw_id (x := 405 + 12 * (k : Int)) ⟨by omega, by omega⟩, zw_id ⟨by omega, by omega⟩]
    omega
  unfold q_X8_of
  rw [e, zgi_pos (by omega) (by omega), Int.toNat_natCast, hm.now]
theorem e8_isActive {T : Nat → Int} (hm : MVt h M v T) {k : Nat} (hk : (k : Int) < v 0 7) : q_X8_isActive h M (k : Int) = some (if v (25 + k) 5 = 1 then 1 else 0) := by
  obtain ⟨m1, m2, m3⟩ := hm
  have hc := m3.2.2.2.2.2.2.2.2 k hk
  have h16 := m2.2.2.2.2.1.2
  unfold q_X8_isActive
  have e := e8_of (h := h) (M := M) m1 (k := k) (j := 5) (by omega) (by decide)
  have e' : q_X8_of h M (k : Int) 5 = some (v (25 + k) 5) := by rw [← hc.2.2.2.2.2.1]; exact e
  rw [e', zbp_some]
  split <;> rfl
end EV
