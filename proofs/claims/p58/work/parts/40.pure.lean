/-! What whole's parts 40 41 42 43 44 45 46 47 say of the class alone. -/
theorem zput_1 {h : zH} {a j : Nat} {x : Int} {b i : Nat} : (zput h a j x).1 b i = if b = a ∧ i = j then x else h.1 b i := rfl
theorem zput_ne {h : zH} {a j : Nat} {x : Int} {b i : Nat} (hn : ¬ (b = a ∧ i = j)) : (zput h a j x).1 b i = h.1 b i := by rw [zput_1, if_neg hn]
theorem zput_2 {h : zH} {a j : Nat} {x : Int} : (zput h a j x).2 = h.2 := rfl
/-- f over 0 .. n - 1 -/
def zit {σ : Type} (f : σ → Nat → σ) : Nat → σ → σ
  | 0, s => s
  | n + 1, s => f (zit f n s) n
theorem zit_s {σ : Type} {f : σ → Nat → σ} {n : Nat} {s : σ} : zit f (n + 1) s = f (zit f n s) n := rfl
theorem zloop {σ ρ : Type} {L : Nat → σ → Int → ρ} {N : Nat} {f : σ → Nat → σ} {s0 : σ} {kf : σ → ρ}
    (h1 : ∀ n i, i < N → L (n + 1) (zit f i s0) (i : Int) = L n (zit f (i + 1) s0) ((i + 1 : Nat) : Int))
    (h2 : ∀ n, L (n + 1) (zit f N s0) (N : Int) = kf (zit f N s0)) : ∀ n i, i ≤ N → N < n + i → L n (zit f i s0) (i : Int) = kf (zit f N s0) := by
  intro n
  induction n with
  | zero => intro i q1 q2; omega
  | succ n ih =>
    intro i q1 q2
    rcases Nat.lt_or_ge i N with q | q
    · rw [h1 n i q]
      exact ih (i + 1) q (by omega)
    · have e : i = N := by omega
      subst e
      exact h2 n
theorem zloop0 {σ ρ : Type} {L : Nat → σ → Int → ρ} {N : Nat} (f : σ → Nat → σ) {s0 : σ} {kf : σ → ρ} (hN : N < 100000)
    (h1 : ∀ n i, i < N → L (n + 1) (zit f i s0) (i : Int) = L n (zit f (i + 1) s0) ((i + 1 : Nat) : Int))
    (h2 : ∀ n, L (n + 1) (zit f N s0) (N : Int) = kf (zit f N s0)) : L zF s0 0 = kf (zit f N s0) :=
  zloop h1 h2 zF 0 (Nat.zero_le _) (by unfold zF; omega)
/-- the first of 0 .. n - 1 that is so -/
def zfs (P : Nat → Bool) : Nat → Nat → Option Nat
  | 0, _ => none
  | m + 1, i => if P i = true then some i else zfs P m (i + 1)
theorem zfind {ρ : Type} {L : Nat → Int → ρ} {N : Nat} (P : Nat → Bool) {r : Nat → ρ} {kf : ρ}
    (h1 : ∀ n i, i < N → L (n + 1) (i : Int) = if P i = true then r i else L n ((i + 1 : Nat) : Int))
    (h2 : ∀ n, L (n + 1) (N : Int) = kf) : ∀ m n i, i + m = N → m < n → L n (i : Int) = match zfs P m i with | none => kf | some k => r k := by
  intro m
  induction m with
  | zero =>
    intro n i q1 q2
    have e : i = N := by omega
    subst e
    obtain ⟨n', rfl⟩ : ∃ n', n = n' + 1 := ⟨n - 1, by omega⟩
    exact h2 n'
  | succ m ih =>
    intro n i q1 q2
    obtain ⟨n', rfl⟩ : ∃ n', n = n' + 1 := ⟨n - 1, by omega⟩
    rw [h1 n' i (by omega)]
    unfold zfs
    by_cases hp : P i = true
    · rw [if_pos hp, if_pos hp]
    · rw [if_neg hp, if_neg hp]
      exact ih n' (i + 1) (by omega) (by omega)
theorem zfind0 {ρ : Type} {L : Nat → Int → ρ} {N : Nat} (P : Nat → Bool) {r : Nat → ρ} {kf : ρ} (hN : N < 100000)
    (h1 : ∀ n i, i < N → L (n + 1) (i : Int) = if P i = true then r i else L n ((i + 1 : Nat) : Int))
    (h2 : ∀ n, L (n + 1) (N : Int) = kf) : L zF 0 = match zfs P N 0 with | none => kf | some k => r k :=
  zfind P h1 h2 N zF 0 (Nat.zero_add _) (by unfold zF; omega)
theorem zfs_congr {P Q : Nat → Bool} : ∀ (m i : Nat), (∀ k, i ≤ k → k < i + m → P k = Q k) → zfs P m i = zfs Q m i := by
  intro m
  induction m with
  | zero => intro i _; rfl
  | succ m ih =>
    intro i h
    unfold zfs
    rw [h i (Nat.le_refl _) (by omega), ih (i + 1) (fun k q1 q2 => h k (by omega) (by omega))]
theorem zit_congr {σ : Type} {f g : σ → Nat → σ} {s : σ} : ∀ n, (∀ i, i < n → ∀ x, f x i = g x i) → zit f n s = zit g n s := by
  intro n
  induction n with
  | zero => intro _; rfl
  | succ n ih =>
    intro h
    rw [zit_s, zit_s, ih (fun i q x => h i (by omega) x), h n (by omega)]
theorem zit_inv {σ : Type} {f : σ → Nat → σ} {s : σ} (P : Nat → σ → Prop) (h0 : P 0 s) : ∀ n, (∀ i, i < n → ∀ x, P i x → P (i + 1) (f x i)) → P n (zit f n s) := by
  intro n
  induction n with
  | zero => intro _; exact h0
  | succ n ih =>
    intro h
    rw [zit_s]
    exact h n (by omega) _ (ih (fun i q x hx => h i (by omega) x hx))
theorem zw_s {i : Nat} (h : i < 1000000) : zw ((i : Int) + 1) = ((i + 1 : Nat) : Int) := by rw [zw_id ⟨by omega, by omega⟩]; omega
/-- where a State's cells lie -/
def cly (r : Nat → Nat → Nat) (A : Nat) : Prop := ∀ o, o < 41 → ∀ j, r (A + o) j = A + skO o j
theorem cly.set {r : Nat → Nat → Nat} {A : Nat} (h : cly r A) : r A 2 = A + 1 := h 0 (by decide) 2
theorem cly.sts {r : Nat → Nat → Nat} {A : Nat} (h : cly r A) : r A 4 = A + 2 := h 0 (by decide) 4
theorem cly.rns {r : Nat → Nat → Nat} {A : Nat} (h : cly r A) : r A 6 = A + 3 := h 0 (by decide) 6
theorem cly.cls {r : Nat → Nat → Nat} {A : Nat} (h : cly r A) : r A 8 = A + 4 := h 0 (by decide) 8
theorem cly.st {r : Nat → Nat → Nat} {A : Nat} (h : cly r A) (s : Nat) : r (A + 2) s = A + (5 + 2 * s) := h 2 (by decide) s
theorem cly.rn {r : Nat → Nat → Nat} {A : Nat} (h : cly r A) (s : Nat) : r (A + 3) s = A + (17 + s) := h 3 (by decide) s
theorem cly.cl {r : Nat → Nat → Nat} {A : Nat} (h : cly r A) (k : Nat) : r (A + 4) k = A + (25 + k) := h 4 (by decide) k
theorem cly.er {r : Nat → Nat → Nat} {A : Nat} (h : cly r A) {s : Nat} (hs : s < 6) : r (A + (5 + 2 * s)) 7 = A + (6 + 2 * s) := by
  have e := h (5 + 2 * s) (by omega) 7
  rw [e]
  unfold skO
  rw [if_neg (by omega), if_neg (by omega), if_neg (by omega), if_neg (by omega), if_pos rfl]
  omega
/-- a State's numbers -/
def vw (g : Nat → Nat → Int) (A : Nat) : Nat → Nat → Int := fun o j => if o < 41 then g (A + o) j else 0
theorem vw_at {g : Nat → Nat → Int} {A o j : Nat} (ho : o < 41) : vw g A o j = g (A + o) j := by unfold vw; rw [if_pos ho]
theorem vw_ext {g g' : Nat → Nat → Int} {A A' : Nat} (h : ∀ o, o < 41 → ∀ j, g (A + o) j = g' (A' + o) j) : vw g A = vw g' A' := by
  funext o j
  unfold vw
  by_cases ho : o < 41
  · rw [if_pos ho, if_pos ho, h o ho j]
  · rw [if_neg ho, if_neg ho]
def WFs (v : Nat → Nat → Int) (s : Nat) : Prop := (0 ≤ v (5 + 2 * s) 1 ∧ v (5 + 2 * s) 1 ≤ 5000) ∧ (-50 ≤ v (5 + 2 * s) 2 ∧ v (5 + 2 * s) 2 ≤ 50) ∧ (0 ≤ v (5 + 2 * s) 3 ∧ v (5 + 2 * s) 3 ≤ v (5 + 2 * s) 4 ∧ v (5 + 2 * s) 4 ≤ 999) ∧ (0 ≤ v (5 + 2 * s) 5 ∧ v (5 + 2 * s) 5 ≤ 999) ∧ (0 ≤ v (5 + 2 * s) 6 ∧ v (5 + 2 * s) 6 ≤ v 0 0) ∧ ∀ j, j < 64 → -100000 ≤ v (6 + 2 * s) j ∧ v (6 + 2 * s) j ≤ 100000
def WFr (v : Nat → Nat → Int) (r : Nat) : Prop := (0 ≤ v (17 + r) 0 ∧ v (17 + r) 0 < v 0 3) ∧ (0 ≤ v (17 + r) 1 ∧ v (17 + r) 1 ≤ v (17 + r) 2 ∧ v (17 + r) 2 ≤ 9999) ∧ (1 ≤ v (17 + r) 3 ∧ v (17 + r) 3 ≤ 400)
def WFc (v : Nat → Nat → Int) (k : Nat) : Prop := (0 ≤ v (25 + k) 0 ∧ v (25 + k) 0 < v 0 3) ∧ (0 ≤ v (25 + k) 1 ∧ v (25 + k) 1 < v 0 3) ∧ v (25 + k) 0 ≠ v (25 + k) 1 ∧ (0 ≤ v (25 + k) 2 ∧ v (25 + k) 2 ≤ 9) ∧ (2 ≤ v (25 + k) 3 ∧ v (25 + k) 3 ≤ 2200) ∧ (1 ≤ v (25 + k) 4 ∧ v (25 + k) 4 ≤ 9999) ∧ (v (25 + k) 5 = 0 ∨ v (25 + k) 5 = 1 ∨ v (25 + k) 5 = 2) ∧ (0 ≤ v (25 + k) 8 ∧ v (25 + k) 8 ≤ v 0 0) ∧ (-1 ≤ v (25 + k) 9 ∧ v (25 + k) 9 ≤ v 0 0) ∧ (0 ≤ v (25 + k) 10 ∧ v (25 + k) 10 ≤ v 0 0)
  ∧ True ∧ (v (25 + k) 5 = 1 → 0 ≤ v (25 + k) 9 ∧ (0 ≤ v (25 + k) 6 ∧ v (25 + k) 6 < v 0 1) ∧ (v 1 2 + v 1 1 ≤ v (25 + k) 7 ∧ v (25 + k) 7 + v (25 + k) 3 + v 1 1 ≤ v 1 0))
/-- a State as it can be -/
def WF (v : Nat → Nat → Int) : Prop := (0 ≤ v 0 0 ∧ v 0 0 ≤ 9999) ∧ (1 ≤ v 0 1 ∧ v 0 1 ≤ 4) ∧ (0 ≤ v 0 3 ∧ v 0 3 ≤ 6) ∧ (0 ≤ v 0 5 ∧ v 0 5 ≤ 8) ∧ (0 ≤ v 0 7 ∧ v 0 7 ≤ 16) ∧ (∀ j, j < 7 → zsV 0 j ≤ v 1 j ∧ v 1 j ≤ zsV 1 j)
  ∧ (∀ s : Nat, (s : Int) < v 0 3 → WFs v s) ∧ (∀ r : Nat, (r : Int) < v 0 5 → WFr v r) ∧ ∀ k : Nat, (k : Int) < v 0 7 → WFc v k
/-- class and reference hold the same: the State at A, the reference at M -/
def CV (h : zH) (A : Nat) : Prop := cly h.2 A ∧ WF (vw h.1 A)
section EV
variable {h : zH} {A M : Nat} {v : Nat → Nat → Int}
end EV
/-- two calls are in conflict, the first on its carrier, the second on carrier c -/
def cfl (v : Nat → Nat → Int) (l k : Nat) (c : Int) : Prop := v (25 + l) 6 = c ∨ v (25 + l) 0 = v (25 + k) 0 ∨ v (25 + l) 1 = v (25 + k) 1
/-- a call would stand free at a start of a carrier, were some calls away -/
def Fit (v : Nat → Nat → Int) (W : Nat → Prop) (k : Nat) (c t : Int) : Prop := v 1 2 + v 1 1 ≤ t ∧ t + v (25 + k) 3 + v 1 1 ≤ v 1 0 ∧ ∀ l : Nat, (l : Int) < v 0 7 → v (25 + l) 5 = 1 → ¬ W l → cfl v l k c → ¬ (t < v (25 + l) 7 + v (25 + l) 3 + v 1 1 ∧ v (25 + l) 7 < t + v (25 + k) 3 + v 1 1)
def GI (v : Nat → Nat → Int) : Prop :=
  (∀ k l : Nat, (k : Int) < v 0 7 → (l : Int) < v 0 7 → k ≠ l → v (25 + k) 5 = 1 → v (25 + l) 5 = 1 → cfl v l k (v (25 + k) 6) → v (25 + k) 7 + v (25 + k) 3 + v 1 1 ≤ v (25 + l) 7 ∨ v (25 + l) 7 + v (25 + l) 3 + v 1 1 ≤ v (25 + k) 7)
  ∧ (∀ k : Nat, (k : Int) < v 0 7 → v (25 + k) 5 = 0 → ∀ c t : Int, 0 ≤ c → c < v 0 1 → ¬ Fit v (fun _ => False) k c t)
  ∧ ∀ k : Nat, (k : Int) < v 0 7 → v (25 + k) 5 = 0 → v (25 + k) 9 = -1
def Good (v : Nat → Nat → Int) : Prop := WF v ∧ GI v
def zInv (B : Nat) (h : zH) : Prop :=
  (∀ o, o < 541 → o ≠ 86 → ∀ j, h.2 (B + o) j = B + gO o j)
  ∧ (∃ σ : Nat → Nat, (∀ j, j < 10 → σ j < 10) ∧ (∀ i j, i < 10 → j < 10 → σ i = σ j → i = j) ∧ (∀ j, j < 10 → h.2 (B + 86) j = B + (87 + 41 * σ j)))
  ∧ (0 ≤ h.1 (B + 85) 0 ∧ h.1 (B + 85) 0 ≤ 10)
  ∧ Good (vw h.1 (B + 1))
  ∧ (0 ≤ h.1 (B + 498) 0 ∧ h.1 (B + 498) 0 ≤ 1000)
/-- what nobody reads before it is written -/
def zScrt (B a j : Nat) : Prop := (B + 42 ≤ a ∧ a < B + 85) ∨ (B + 500 ≤ a ∧ a < B + 541) ∨ (a = B + 541 ∧ j ≠ 2 ∧ j ≠ 8 ∧ j ≠ 17) ∨ a = B + 541 + 3 ∨ a = B + 541 + 5 ∨ (B + 541 + 7 ≤ a ∧ a ≤ B + 552) ∨ (a = B + 497 ∧ j ≠ 2) ∨ (a = B + 498 ∧ j ≠ 0)
def zSame (B : Nat) (h h' : zH) : Prop := h'.2 = h.2 ∧ ∀ a j, ¬ zScrt B a j → h'.1 a j = h.1 a j
theorem zSame.rf {B : Nat} {h : zH} : zSame B h h := ⟨rfl, fun _ _ _ => rfl⟩
theorem zSame.tr {B : Nat} {h h' h'' : zH} (h1 : zSame B h h') (h2 : zSame B h' h'') : zSame B h h'' := ⟨h2.1.trans h1.1, fun a j q => (h2.2 a j q).trans (h1.2 a j q)⟩
theorem zSame.put {B : Nat} {h h' : zH} (h1 : zSame B h h') {a j : Nat} {x : Int} (hs : zScrt B a j) : zSame B h (zput h' a j x) :=
  ⟨h1.1, fun b i q => (zput_ne (fun e => q (by rw [e.1, e.2]; exact hs))).trans (h1.2 b i q)⟩
theorem zSame.vw {B : Nat} {h h' : zH} (hs : zSame B h h') {A : Nat} (hA : ∀ o, o < 41 → ∀ j, ¬ zScrt B (A + o) j) : vw h'.1 A = vw h.1 A := vw_ext fun o ho j => hs.2 _ _ (hA o ho j)
theorem zScrt_cur {B o j : Nat} (ho : o < 41) : ¬ zScrt B (B + 1 + o) j := by unfold zScrt; omega
theorem zScrt_kept {B i o j : Nat} (hi : i < 10) (ho : o < 41) : ¬ zScrt B (B + (87 + 41 * i) + o) j := by unfold zScrt; omega
theorem zSame.row {B : Nat} {h h' : zH} (hs : zSame B h h') {a : Nat} (ha : ∀ j, ¬ zScrt B a j) : h'.1 a = h.1 a := by
  funext j
  exact hs.2 a j (ha j)
theorem zInv.same {B : Nat} {h h' : zH} (hI : zInv B h) (hs : zSame B h h') : zInv B h' := by
  obtain ⟨a1, ⟨σ, b1, b2, b3⟩, c1, d1, e1⟩ := hI
  have n85 : h'.1 (B + 85) 0 = h.1 (B + 85) 0 := hs.2 _ _ (by unfold zScrt; omega)
  have n498 : h'.1 (B + 498) 0 = h.1 (B + 498) 0 := hs.2 _ _ (by unfold zScrt; omega)
  have vc : vw h'.1 (B + 1) = vw h.1 (B + 1) := hs.vw fun o ho j => zScrt_cur ho
  exact ⟨by rw [hs.1]; exact a1, ⟨σ, b1, b2, by rw [hs.1]; exact b3⟩, by rw [n85]; exact c1, by rw [vc]; exact d1, by rw [n498]; exact e1⟩
theorem zInv.cly {B : Nat} {h : zH} (hI : zInv B h) : cly h.2 (B + 1) := by
  intro o ho j
  have := hI.1 (1 + o) (by omega) (by omega) j
  rw [gO_1 ho] at this
  rw [Nat.add_assoc, this]
  omega
theorem zInv.wf {B : Nat} {h : zH} (hI : zInv B h) : WF (vw h.1 (B + 1)) := hI.2.2.2.1.1
theorem zInv.r0 {B : Nat} {h : zH} (hI : zInv B h) : h.2 B 0 = B + 1 := hI.1 0 (by decide) (by decide) 0
theorem zInv.r3 {B : Nat} {h : zH} (hI : zInv B h) : h.2 B 3 = B + 85 := hI.1 0 (by decide) (by decide) 3
theorem zInv.r4 {B : Nat} {h : zH} (hI : zInv B h) : h.2 B 4 = B + 497 := hI.1 0 (by decide) (by decide) 4
theorem sM0 {B : Nat} : zScrt B (B + 541) 0 := Or.inr (Or.inr (Or.inl ⟨rfl, by decide, by decide, by decide⟩))
theorem sO {B j : Nat} : zScrt B (B + 552) j := by unfold zScrt; omega
theorem e_inRange (h : zH) (x lo hi : Int) : q_X7_inRange h x lo hi = some (if lo ≤ x ∧ x ≤ hi then 1 else 0) := by
  unfold q_X7_inRange
  by_cases h1 : x < lo
  · rw [if_pos h1, if_neg (by omega)]
  · rw [if_neg h1]
    by_cases h2 : hi < x
    · rw [if_pos h2, if_neg (by omega)]
    · rw [if_neg h2, if_pos (by omega)]
theorem e_inR {h : zH} {x lo hi : Int} (h1 : lo ≤ x) (h2 : x ≤ hi) : q_X7_inRange h x lo hi = some 1 := by rw [e_inRange, if_pos ⟨h1, h2⟩]
theorem e_inN {h : zH} {x lo hi : Int} (h1 : ¬ (lo ≤ x ∧ x ≤ hi)) : q_X7_inRange h x lo hi = some 0 := by rw [e_inRange, if_neg h1]
section CK
variable {B : Nat} {h : zH}
theorem vc0 (j : Nat) : vw h.1 (B + 1) 0 j = h.1 (B + 1) j := vw_at (by decide)
theorem e7_call (hI : zInv B h) {k : Nat} (hk : (k : Int) < vw h.1 (B + 1) 0 7) : q_X7_checkedCall h B (k : Int) = some (B + 1 + (25 + k)) := by
  have hw := hI.wf.2.2.2.2.1
  rw [vc0] at hk hw
  unfold q_X7_checkedCall
  rw [hI.r0, zw_id ⟨by omega, by omega⟩, e_inR (by omega) (by omega), zbp_some, if_neg (by decide), zgi_pos (by omega) (by omega), Int.toNat_natCast, hI.cly.cls, hI.cly.cl]
theorem e7_station (hI : zInv B h) {k : Nat} (hk : (k : Int) < vw h.1 (B + 1) 0 3) : q_X7_checkedStation h B (k : Int) = some (B + 1 + (5 + 2 * k)) := by
  have hw := hI.wf.2.2.1
  rw [vc0] at hk hw
  unfold q_X7_checkedStation
  rw [hI.r0, zw_id ⟨by omega, by omega⟩, e_inR (by omega) (by omega), zbp_some, if_neg (by decide), zgi_pos (by omega) (by omega), Int.toNat_natCast, hI.cly.sts, hI.cly.st]
theorem e7_carrier (hI : zInv B h) {x : Int} (h0 : 0 ≤ x) (hk : x < vw h.1 (B + 1) 0 1) : q_X7_checkCarrier h B x = some () := by
  have hw := hI.wf.2.1
  rw [vc0] at hk hw
  unfold q_X7_checkCarrier
  rw [hI.r0, zw_id ⟨by omega, by omega⟩, e_inR (by omega) (by omega), zbp_some, if_neg (by decide)]
end CK
theorem zput_self {h : zH} {a j : Nat} {x : Int} : (zput h a j x).1 a j = x := by rw [zput_1, if_pos ⟨rfl, rfl⟩]
section LK
variable {B : Nat} {h : zH} {v : Nat → Nat → Int}
/-- the check of a call, in the class -/
theorem b_call (hI : zInv B h) {x : Int} : (¬ (0 ≤ x ∧ x ≤ zw (h.1 (h.2 B 0) 7 - 1))) ↔ ¬ (0 ≤ x ∧ x < vw h.1 (B + 1) 0 7) := by
  have hw := hI.wf.2.2.2.2.1
  rw [vc0] at hw ⊢
  rw [hI.r0, zw_id ⟨by omega, by omega⟩]
  omega
theorem b_station (hI : zInv B h) {x : Int} : (¬ (0 ≤ x ∧ x ≤ zw (h.1 (h.2 B 0) 3 - 1))) ↔ ¬ (0 ≤ x ∧ x < vw h.1 (B + 1) 0 3) := by
  have hw := hI.wf.2.2.1
  rw [vc0] at hw ⊢
  rw [hI.r0, zw_id ⟨by omega, by omega⟩]
  omega
theorem b_carrier (hI : zInv B h) {x : Int} : (¬ (0 ≤ x ∧ x ≤ zw (h.1 (h.2 B 0) 1 - 1))) ↔ ¬ (0 ≤ x ∧ x < vw h.1 (B + 1) 0 1) := by
  have hw := hI.wf.2.1
  rw [vc0] at hw ⊢
  rw [hI.r0, zw_id ⟨by omega, by omega⟩]
  omega
theorem vcl {k j : Nat} (hk : k < 16) : vw h.1 (B + 1) (25 + k) j = h.1 (B + 1 + (25 + k)) j := vw_at (by omega)
theorem vst {s j : Nat} (hs : s < 6) : vw h.1 (B + 1) (5 + 2 * s) j = h.1 (B + 1 + (5 + 2 * s)) j := vw_at (by omega)
theorem ver {s j : Nat} (hs : s < 6) : vw h.1 (B + 1) (6 + 2 * s) j = h.1 (B + 1 + (6 + 2 * s)) j := vw_at (by omega)
theorem vrn {r j : Nat} (hr : r < 8) : vw h.1 (B + 1) (17 + r) j = h.1 (B + 1 + (17 + r)) j := vw_at (by omega)
theorem vse (j : Nat) : vw h.1 (B + 1) 1 j = h.1 (B + 1 + 1) j := vw_at (by decide)
end LK
theorem zbd_eta {α : Type} {E : Option (α × zH)} : zbd E (fun x h => some (x, h)) = E := by
  cases E with
  | none => rfl
  | some q => rfl
theorem zbp_eta {α : Type} {E : Option α} : zbp E (fun x => some x) = E := by
  cases E with
  | none => rfl
  | some q => rfl
section OPS
variable {B : Nat}
theorem n16 {h : zH} (hI : zInv B h) {n : Nat} (hn : (n : Int) < vw h.1 (B + 1) 0 7) : n < 16 := by have := hI.wf.2.2.2.2.1.2; omega
theorem n6 {h : zH} (hI : zInv B h) {n : Nat} (hn : (n : Int) < vw h.1 (B + 1) 0 3) : n < 6 := by have := hI.wf.2.2.1.2; omega
theorem wfc {h : zH} (hI : zInv B h) {n : Nat} (hn : (n : Int) < vw h.1 (B + 1) 0 7) : WFc (vw h.1 (B + 1)) n := hI.wf.2.2.2.2.2.2.2.2 n hn
theorem wfs {h : zH} (hI : zInv B h) {n : Nat} (hn : (n : Int) < vw h.1 (B + 1) 0 3) : WFs (vw h.1 (B + 1)) n := hI.wf.2.2.2.2.2.2.1 n hn
end OPS
theorem zloopP {σ ρ : Type} {L : Nat → σ → Int → ρ} {N : Nat} (f : σ → Nat → σ) (P : σ → Prop) {s0 : σ} {kf : σ → ρ} (hN : N < 100000) (hP0 : P s0) (hPs : ∀ s i, i < N → P s → P (f s i))
    (h1 : ∀ n s i, i < N → P s → L (n + 1) s (i : Int) = L n (f s i) ((i + 1 : Nat) : Int))
    (h2 : ∀ n s, P s → L (n + 1) s (N : Int) = kf s) : L zF s0 0 = kf (zit f N s0) := by
  have hP : ∀ i, i ≤ N → P (zit f i s0) := fun i hi => zit_inv (fun _ s => P s) hP0 i (fun k hk x hx => hPs x k (by omega) hx)
  exact zloop0 f hN (fun n i hi => h1 n _ i hi (hP i (by omega))) (fun n => h2 n _ (hP N (Nat.le_refl _)))
theorem zw_c {c i : Nat} (h : c + i < 1000000) : zw ((c : Int) + (i : Int)) = ((c + i : Nat) : Int) := by rw [zw_id ⟨by omega, by omega⟩]; omega
theorem zw_0 {a : Int} (h : zR a) : zw (a + 0) = a := by rw [Int.add_zero, zw_id h]
theorem zloopS {σ ρ : Type} {L : Nat → σ → Int → ρ} {N : Nat} (f : σ → Nat → σ) {s0 : σ} {kf : σ → ρ} (hN : N < 100000)
    (h1 : ∀ n s i, i < N → L (n + 1) s (i : Int) = L n (f s i) ((i + 1 : Nat) : Int))
    (h2 : ∀ n s, L (n + 1) s (N : Int) = kf s) : L zF s0 0 = kf (zit f N s0) :=
  zloopP f (fun _ => True) hN trivial (fun _ _ _ _ => trivial) (fun n s i hi _ => h1 n s i hi) (fun n s _ => h2 n s)
/-- how many calls, stations, rains -/
def nCl (v : Nat → Nat → Int) : Nat := (v 0 7).toNat
def nSt (v : Nat → Nat → Int) : Nat := (v 0 3).toNat
def nRn (v : Nat → Nat → Int) : Nat := (v 0 5).toNat
theorem WF.nC {v : Nat → Nat → Int} (w : WF v) : v 0 7 = (nCl v : Int) ∧ nCl v ≤ 16 := by have := w.2.2.2.2.1; unfold nCl; omega
theorem WF.nS {v : Nat → Nat → Int} (w : WF v) : v 0 3 = (nSt v : Int) ∧ nSt v ≤ 6 := by have := w.2.2.1; unfold nSt; omega
theorem WF.nR {v : Nat → Nat → Int} (w : WF v) : v 0 5 = (nRn v : Int) ∧ nRn v ≤ 8 := by have := w.2.2.2.1; unfold nRn; omega
section CL
variable {h : zH} {A : Nat}
theorem a_n7 (hc : CV h A) : h.1 A 7 = (nCl (vw h.1 A) : Int) := by rw [← hc.2.nC.1]; exact (vw_at (o := 0) (by decide)).symm
theorem a_n3 (hc : CV h A) : h.1 A 3 = (nSt (vw h.1 A) : Int) := by rw [← hc.2.nS.1]; exact (vw_at (o := 0) (by decide)).symm
theorem a_n5 (hc : CV h A) : h.1 A 5 = (nRn (vw h.1 A) : Int) := by rw [← hc.2.nR.1]; exact (vw_at (o := 0) (by decide)).symm
theorem a_c {k j : Nat} (hk : k < 16) : h.1 (A + (25 + k)) j = vw h.1 A (25 + k) j := (vw_at (by omega)).symm
theorem a_s {k j : Nat} (hk : k < 6) : h.1 (A + (5 + 2 * k)) j = vw h.1 A (5 + 2 * k) j := (vw_at (by omega)).symm
theorem a_e {k j : Nat} (hk : k < 6) : h.1 (A + (6 + 2 * k)) j = vw h.1 A (6 + 2 * k) j := (vw_at (by omega)).symm
theorem a_r {k j : Nat} (hk : k < 8) : h.1 (A + (17 + k)) j = vw h.1 A (17 + k) j := (vw_at (by omega)).symm
theorem a_0 (j : Nat) : h.1 A j = vw h.1 A 0 j := (vw_at (o := 0) (by decide)).symm
theorem a_1 (j : Nat) : h.1 (A + 1) j = vw h.1 A 1 j := (vw_at (o := 1) (by decide)).symm
theorem a_call (hc : CV h A) {k : Nat} : h.2 (h.2 A 8) k = A + (25 + k) := by rw [hc.1.cls, hc.1.cl]
theorem a_stn (hc : CV h A) {k : Nat} : h.2 (h.2 A 4) k = A + (5 + 2 * k) := by rw [hc.1.sts, hc.1.st]
theorem a_rain (hc : CV h A) {k : Nat} : h.2 (h.2 A 6) k = A + (17 + k) := by rw [hc.1.rns, hc.1.rn]
theorem e4_isOn {k : Nat} (hk : k < 16) {c : Int} : q_X0_isOn h (A + (25 + k)) c = some (if vw h.1 A (25 + k) 5 = 1 ∧ vw h.1 A (25 + k) 6 = c then 1 else 0) := by
  unfold q_X0_isOn
  rw [a_c hk, a_c hk]
  by_cases h1 : vw h.1 A (25 + k) 5 = 1
  · by_cases h2 : vw h.1 A (25 + k) 6 = c
    · rw [if_pos h1, if_pos h2, if_pos ⟨h1, h2⟩]
    · rw [if_pos h1, if_neg h2, if_neg (fun q => h2 q.2)]
  · rw [if_neg h1, if_neg (fun q => h1 q.1)]
/-- the fading over a station -/
def sFade (v : Nat → Nat → Int) (s f : Int) : Int := zit (fun (a : Int) r => if v (17 + r) 0 = s ∧ v (17 + r) 1 ≤ f ∧ f ≤ v (17 + r) 2 then a + v (17 + r) 3 else a) (nRn v) 0
theorem sFade_b {v : Nat → Nat → Int} (w : WF v) (s f : Int) : 0 ≤ sFade v s f ∧ sFade v s f ≤ 3200 := by
  have hn := w.nR
  have key := zit_inv (f := fun (a : Int) r => if v (17 + r) 0 = s ∧ v (17 + r) 1 ≤ f ∧ f ≤ v (17 + r) 2 then a + v (17 + r) 3 else a) (s := 0) (fun i (a : Int) => 0 ≤ a ∧ a ≤ 400 * (i : Int)) ⟨by omega, by omega⟩ (nRn v) (fun i hi a ha => by
    have hw := (w.2.2.2.2.2.2.2.1 i (by omega)).2.2
    split <;> omega)
  have key' : 0 ≤ sFade v s f ∧ sFade v s f ≤ 400 * (nRn v : Int) := key
  omega
theorem fade_pre {v : Nat → Nat → Int} (w : WF v) (s f : Int) : ∀ a : Int, ∀ i, i < nRn v → (0 ≤ a ∧ a ≤ 400 * (i : Int)) → (0 ≤ (if v (17 + i) 0 = s ∧ v (17 + i) 1 ≤ f ∧ f ≤ v (17 + i) 2 then a + v (17 + i) 3 else a) ∧ (if v (17 + i) 0 = s ∧ v (17 + i) 1 ≤ f ∧ f ≤ v (17 + i) 2 then a + v (17 + i) 3 else a) ≤ 400 * ((i + 1 : Nat) : Int)) := by
  intro a i hi ha
  have hn := w.nR
  have hw := (w.2.2.2.2.2.2.2.1 i (by omega)).2.2
  split <;> omega
theorem zloopQ {σ ρ : Type} {L : Nat → σ → Int → ρ} {N : Nat} (f : σ → Nat → σ) (P : Nat → σ → Prop) {s0 : σ} {kf : σ → ρ} (hN : N < 100000) (hP0 : P 0 s0) (hPs : ∀ s i, i < N → P i s → P (i + 1) (f s i))
    (h1 : ∀ n s i, i < N → P i s → L (n + 1) s (i : Int) = L n (f s i) ((i + 1 : Nat) : Int))
    (h2 : ∀ n s, P N s → L (n + 1) s (N : Int) = kf s) : L zF s0 0 = kf (zit f N s0) := by
  have hP : ∀ i, i ≤ N → P i (zit f i s0) := fun i hi => zit_inv P hP0 i (fun k hk x hx => hPs x k (by omega) hx)
  exact zloop0 f hN (fun n i hi => h1 n _ i hi (hP i (by omega))) (fun n => h2 n _ (hP N (Nat.le_refl _)))
theorem e4_fade (hc : CV h A) (s f : Int) : q_X4_fadeIn h A s f = some (sFade (vw h.1 A) s f) := by
  have hn := hc.2.nR
  unfold q_X4_fadeIn
  refine zloopQ (L := fun n a i => q_X4_fadeIn_L5 h A s f (fun x7 _ => some x7) n a i) _ (fun i (a : Int) => 0 ≤ a ∧ a ≤ 400 * (i : Int)) (by omega) ⟨by omega, by omega⟩ (fun a i hi ha => fade_pre hc.2 s f a i hi ha) (fun n a i hi ha => ?_) (fun n a ha => ?_)
  · have hw := (hc.2.2.2.2.2.2.2.2.1 i (by omega)).2.2
    show q_X4_fadeIn_L5 h A s f _ (n + 1) a (i : Int) = _
    rw [q_X4_fadeIn_L5, a_n5 hc, if_neg (by omega), zgi_pos (by omega) (by omega), Int.toNat_natCast]
    dsimp only [zlet]
    have hi8 : i < 8 := by omega
    have ex : zw (a + vw h.1 A (17 + i) 3) = a + vw h.1 A (17 + i) 3 := zw_id ⟨by omega, by omega⟩
    rw [a_rain hc, a_r hi8, a_r hi8, a_r hi8, a_r hi8]
    by_cases h0 : vw h.1 A (17 + i) 0 = s
    · rw [if_pos h0]
      by_cases h1 : vw h.1 A (17 + i) 1 ≤ f ∧ f ≤ vw h.1 A (17 + i) 2
      · rw [e_inR h1.1 h1.2, zbp_some, if_neg (by decide), if_pos ⟨h0, h1⟩, zw_s (by omega), ex]
      · rw [e_inN h1, zbp_some, if_pos rfl, if_neg (fun q => h1 q.2), zw_s (by omega)]
    · rw [if_neg h0, if_neg (fun q => h0 q.1), zw_s (by omega)]
  · show q_X4_fadeIn_L5 h A s f _ (n + 1) a (nRn (vw h.1 A) : Int) = _
    rw [q_X4_fadeIn_L5, a_n5 hc, if_pos (Int.le_refl _)]
end CL
section ML
variable {B : Nat} {h : zH} {v : Nat → Nat → Int}
end ML
theorem zInv.cv {B : Nat} {h : zH} (hI : zInv B h) : CV h (B + 1) := ⟨hI.cly, hI.wf⟩
/-- not by computation: the kernel shall not look into the numbers -/
theorem zlet_b {β γ : Type} (v : β) (k : β → γ) : zlet v k = k v := by
  have h : ∀ x, x = zlet v k → x = k v := fun _ hx => hx
  exact h _ rfl
theorem zi_bv {n : Nat} (h : n < 4294967296) : (zi (n : Int)).toBitVec.toNat = n := by
  show (BitVec.ofInt 32 (n : Int)).toNat = n
  rw [BitVec.toNat_ofInt]
  omega
theorem bv_int {x : Int32} (h : x.toBitVec.toNat < 2147483648) : x.toInt = (x.toBitVec.toNat : Int) := by
  show x.toBitVec.toInt = _
  rw [BitVec.toInt_eq_toNat_of_lt (by omega)]
theorem zand_nat {m n : Nat} (hm : m < 2147483648) (hn : n < 2147483648) : zand (m : Int) (n : Int) = ((m &&& n : Nat) : Int) := by
  unfold zand
  have e : (zi (m : Int) &&& zi (n : Int)).toBitVec.toNat = m &&& n := by
    rw [Int32.toBitVec_and, BitVec.toNat_and, zi_bv (by omega), zi_bv (by omega)]
  have hlt : m &&& n < 2147483648 := Nat.lt_of_le_of_lt Nat.and_le_left hm
  rw [bv_int (by rw [e]; exact hlt), e]
theorem zor_nat {m n : Nat} (hm : m < 65536) (hn : n < 65536) : zor (m : Int) (n : Int) = ((m ||| n : Nat) : Int) := by
  unfold zor
  have e : (zi (m : Int) ||| zi (n : Int)).toBitVec.toNat = m ||| n := by
    rw [Int32.toBitVec_or, BitVec.toNat_or, zi_bv (by omega), zi_bv (by omega)]
  have hlt : m ||| n < 2 ^ 16 := Nat.or_lt_two_pow hm hn
  rw [bv_int (by rw [e]; omega), e]
theorem zsh31 {k : Nat} (hk : k < 32) : (zi (k : Int) &&& 31).toBitVec.toNat = k := by
  have e : (zi (k : Int) &&& 31).toBitVec.toNat = k &&& 31 := by
    rw [Int32.toBitVec_and, BitVec.toNat_and, zi_bv (by omega)]
    rfl
  rw [e, show (31 : Nat) = 2 ^ 5 - 1 from rfl, Nat.and_two_pow_sub_one_eq_mod, Nat.mod_eq_of_lt hk]
theorem zshr_nat {m k : Nat} (hm : m < 2147483648) (hk : k < 32) : zshr (m : Int) (k : Int) = ((m >>> k : Nat) : Int) := by
  unfold zshr
  have e : (zi (m : Int) >>> (zi (k : Int) &&& 31)).toBitVec.toNat = m >>> k := by
    rw [Int32.toBitVec_shiftRight]
    have hs : ((zi (k : Int) &&& 31).toBitVec.smod 32).toNat = k := by
      have h1 := zsh31 hk
      have h2 : (zi (k : Int) &&& 31).toBitVec = BitVec.ofNat 32 k := by
        apply BitVec.eq_of_toNat_eq
        rw [h1, BitVec.toNat_ofNat]
        omega
      rw [h2]
      have h3 : ∀ k : Nat, k < 32 → ((BitVec.ofNat 32 k).smod 32).toNat = k := by decide
      exact h3 k hk
    show (BitVec.sshiftRight _ _).toNat = _
    rw [hs, BitVec.sshiftRight_eq_of_msb_false, BitVec.toNat_ushiftRight, zi_bv (by omega)]
    rw [BitVec.msb_eq_false_iff_two_mul_lt, zi_bv (by omega)]
    omega
  have hlt : m >>> k < 2147483648 := Nat.lt_of_le_of_lt (Nat.shiftRight_le _ _) hm
  rw [bv_int (by rw [e]; exact hlt), e]
theorem zshl_1 : ∀ k : Nat, k < 16 → zshl 1 (k : Int) = ((2 ^ k : Nat) : Int) := by decide
theorem zand_63 {f : Int} (h0 : 0 ≤ f) (h1 : f < 2147483648) : zand f 63 = f % 64 := by
  obtain ⟨n, rfl⟩ := Int.eq_ofNat_of_zero_le h0
  have e := zand_nat (m := n) (n := 63) (by omega) (by decide)
  have e' : zand (n : Int) 63 = ((n &&& 63 : Nat) : Int) := e
  rw [e', show (63 : Nat) = 2 ^ 6 - 1 from rfl, Nat.and_two_pow_sub_one_eq_mod]
  rfl
/-- whether a call is in a set -/
theorem e_isIn {h : zH} {m k : Nat} (hm : m < 65536) (hk : k < 16) : q_X4_isIn h (m : Int) (k : Int) = some (if m.testBit k = true then 1 else 0) := by
  unfold q_X4_isIn
  have e : zand (zshr (m : Int) (k : Int)) 1 = ((m >>> k &&& 1 : Nat) : Int) := by
    rw [zshr_nat (by omega) (by omega)]
    exact zand_nat (n := 1) (Nat.lt_of_le_of_lt (Nat.shiftRight_le _ _) (by omega)) (by decide)
  rw [e]
  have e2 : m.testBit k = decide (m >>> k &&& 1 = 1) := by
    rw [Nat.testBit_eq_decide_div_mod_eq, Nat.shiftRight_eq_div_pow, Nat.and_one_is_mod]
  have hb : m >>> k &&& 1 = 0 ∨ m >>> k &&& 1 = 1 := by rw [Nat.and_one_is_mod]; omega
  rw [e2]
  rcases hb with hb | hb
  · rw [hb]; rfl
  · rw [hb]; rfl
/-- a sum over the calls of a carrier -/
def sOn (v : Nat → Nat → Int) (c : Int) (g : Nat → Int) : Int := zit (fun (a : Int) k => if v (25 + k) 5 = 1 ∧ v (25 + k) 6 = c then a + g k else a) (nCl v) 0
/-- a sum over the active calls that a station sends -/
def sLd (v : Nat → Nat → Int) (s : Int) : Int := zit (fun (a : Int) k => if v (25 + k) 5 = 1 ∧ v (25 + k) 0 = s then a + v (25 + k) 3 else a) (nCl v) 0
/-- how many active calls a station has -/
def sBs (v : Nat → Nat → Int) (s : Int) : Int := zit (fun (a : Int) k => if v (25 + k) 5 = 1 ∧ (v (25 + k) 0 = s ∨ v (25 + k) 1 = s) then a + 1 else a) (nCl v) 0
def sTrip (v : Nat → Nat → Int) (s : Nat) : Int := (2 * v (5 + 2 * s) 1 + v 1 0 - 1).tdiv (v 1 0)
def sMarg (v : Nat → Nat → Int) (k : Nat) (p f : Int) : Int := p - sFade v (v (25 + k) 0) f - sFade v (v (25 + k) 1) f - v 1 4
theorem WF.set {v : Nat → Nat → Int} (w : WF v) : (200 ≤ v 1 0 ∧ v 1 0 ≤ 5000) ∧ (0 ≤ v 1 1 ∧ v 1 1 ≤ 200) ∧ (1 ≤ v 1 2 ∧ v 1 2 ≤ 500) ∧ (1 ≤ v 1 3 ∧ v 1 3 ≤ 200) ∧ (0 ≤ v 1 4 ∧ v 1 4 ≤ 999) ∧ (1 ≤ v 1 5 ∧ v 1 5 ≤ 100) ∧ (1 ≤ v 1 6 ∧ v 1 6 ≤ 100) := by
  have h := w.2.2.2.2.2.1
  exact ⟨h 0 (by decide), h 1 (by decide), h 2 (by decide), h 3 (by decide), h 4 (by decide), h 5 (by decide), h 6 (by decide)⟩
section CL
variable {h : zH} {A : Nat}
theorem a_set (hc : CV h A) (j : Nat) : h.1 (h.2 A 2) j = vw h.1 A 1 j := by rw [hc.1.set, a_1]
theorem tripN {d n : Int} (h1 : 0 ≤ d ∧ d ≤ 5000) (h2 : 200 ≤ n ∧ n ≤ 5000) : zw (zw (zw (2 * d) + n) - 1) = 2 * d + n - 1 ∧ 0 ≤ (2 * d + n - 1).tdiv n ∧ (2 * d + n - 1).tdiv n ≤ 50 ∧ zw ((2 * d + n - 1).tdiv n) = (2 * d + n - 1).tdiv n := by
  have e1 : zw (2 * d) = 2 * d := zw_id ⟨by omega, by omega⟩
  have e2 : zw (2 * d + n) = 2 * d + n := zw_id ⟨by omega, by omega⟩
  have e3 : zw (2 * d + n - 1) = 2 * d + n - 1 := zw_id ⟨by omega, by omega⟩
  have e4 : (2 * d + n - 1).tdiv n = (2 * d + n - 1) / n := Int.tdiv_eq_ediv_of_nonneg (by omega)
  have e5 : 0 ≤ (2 * d + n - 1) / n := Int.ediv_nonneg (by omega) (by omega)
  have e6 : (2 * d + n - 1) / n < 51 := by
    apply Int.ediv_lt_of_lt_mul (by omega)
    omega
  rw [e1, e2, e3, e4]
  exact ⟨rfl, e5, by omega, zw_id ⟨by omega, by omega⟩⟩
theorem e4_trip (hc : CV h A) {s : Nat} (hs : (s : Int) < vw h.1 A 0 3) : q_X4_tripOf h A (A + (5 + 2 * s)) = some (sTrip (vw h.1 A) s) := by
  have hw := hc.2.set.1
  have hd := (hc.2.2.2.2.2.2.2.1 s hs).1
  have h6 := hc.2.nS
  obtain ⟨t1, t2, t3, t4⟩ := tripN hd hw
  unfold q_X4_tripOf
  simp only [zlet_b]
  rw [a_set hc, a_s (by omega), if_neg (by omega), zgz_pos (by omega), t1, t4]
  rfl
theorem e4_marg (hc : CV h A) {k : Nat} (hk : (k : Int) < vw h.1 A 0 7) {p : Int} (hp : 0 ≤ p ∧ p ≤ 999) (f : Int) : q_X4_marginWith h A (A + (25 + k)) p f = some (sMarg (vw h.1 A) k p f) := by
  have hn := hc.2.nC
  have hw := hc.2.set.2.2.2.2.1
  have b0 := sFade_b hc.2 (vw h.1 A (25 + k) 0) f
  have b1 := sFade_b hc.2 (vw h.1 A (25 + k) 1) f
  unfold q_X4_marginWith
  rw [a_c (by omega), a_c (by omega), e4_fade hc, zbp_some, e4_fade hc, zbp_some, a_set hc]
  rw [zw_id (x := p - _) ⟨by omega, by omega⟩, zw_id (x := p - _ - _) ⟨by omega, by omega⟩, zw_id ⟨by omega, by omega⟩]
  rfl
theorem e4_pmarg (hc : CV h A) {k : Nat} (hk : (k : Int) < vw h.1 A 0 7) : q_X4_presentMargin h A (A + (25 + k)) = some (sMarg (vw h.1 A) k (vw h.1 A (5 + 2 * (vw h.1 A (25 + k) 0).toNat) 5) (vw h.1 A 0 0)) := by
  have hn := hc.2.nC
  have h6 := hc.2.nS
  have hw := (hc.2.2.2.2.2.2.2.2.2 k hk).1
  obtain ⟨s, hs⟩ : ∃ s : Nat, vw h.1 A (25 + k) 0 = (s : Int) := ⟨(vw h.1 A (25 + k) 0).toNat, by omega⟩
  rw [hs] at hw
  have hp := (hc.2.2.2.2.2.2.2.1 s hw.2).2.2.2.1
  unfold q_X4_presentMargin
  rw [a_c (by omega), hs, zgi_pos (by omega) (by omega), Int.toNat_natCast, a_stn hc, a_s (by omega), a_0, e4_marg hc hk hp, zbp_some]
theorem e5_err (hc : CV h A) {s : Nat} (hs : s < 6) {f : Int} (h0 : 0 ≤ f) (h1 : f < 2147483648) : q_X5_errorIn h (A + (5 + 2 * s)) f = some (vw h.1 A (6 + 2 * s) (f % 64).toNat) := by
  unfold q_X5_errorIn
  rw [zand_63 h0 h1, zgi_pos (by omega) (by omega), hc.1.er hs, a_e hs]
end CL
section ML
variable {B : Nat} {h : zH} {v : Nat → Nat → Int}
end ML
section OPS
variable {B : Nat}
end OPS
section OPS
variable {B : Nat}
theorem one0 : ¬ ((1 : Int) = 0) := by decide
theorem sOn_s {v : Nat → Nat → Int} (w : WF v) {c : Int} {g : Nat → Int} {m : Int} (hg : ∀ k : Nat, (k : Int) < v 0 7 → 0 ≤ g k ∧ g k ≤ m) (hm : 0 ≤ m) : ∀ (a : Int) i, i < nCl v → (0 ≤ a ∧ a ≤ m * (i : Int)) → 0 ≤ (if v (25 + i) 5 = 1 ∧ v (25 + i) 6 = c then a + g i else a) ∧ (if v (25 + i) 5 = 1 ∧ v (25 + i) 6 = c then a + g i else a) ≤ m * ((i + 1 : Nat) : Int) := by
  intro a i hi ha
  have hn := w.nC
  have h1 := hg i (by omega)
  have e : m * ((i + 1 : Nat) : Int) = m * (i : Int) + m := by rw [Int.natCast_add, Int.mul_add]; simp
  rw [e]
  split <;> omega
theorem sm_le {m a : Int} {i : Nat} (hm : 0 ≤ m) (hi : i ≤ 16) (ha : a ≤ m * (i : Int)) : a ≤ 16 * m := by
  have : m * (i : Int) ≤ m * 16 := Int.mul_le_mul_of_nonneg_left (by omega) hm
  omega
end OPS
