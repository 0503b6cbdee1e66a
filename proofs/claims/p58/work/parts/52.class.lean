/-! What whole's parts 52 53 54 54b 55 56 say of the class alone. -/
def upi (e : Nat → Int) (m : Nat) (x : Int) : Nat → Int := fun j => if j = m then x else e j
/-- 64 places of a row -/
def zRng (h : zH) (A o : Nat) (e : Nat → Int) : zH := (fun q j => if q = A ∧ o ≤ j ∧ j < o + 64 then e (j - o) else h.1 q j, h.2)
theorem zRng_at {h : zH} {A o : Nat} {e : Nat → Int} {j : Nat} (hj : j < 64) : (zRng h A o e).1 A (o + j) = e j := by
  show (if A = A ∧ o ≤ o + j ∧ o + j < o + 64 then e (o + j - o) else h.1 A (o + j)) = _
  rw [if_pos ⟨rfl, by omega, by omega⟩]
  congr 1
  omega
theorem zRng_ne {h : zH} {A o q : Nat} {e : Nat → Int} {j : Nat} (hj : q ≠ A ∨ j < o ∨ o + 64 ≤ j) : (zRng h A o e).1 q j = h.1 q j := by
  show (if q = A ∧ o ≤ j ∧ j < o + 64 then e (j - o) else h.1 q j) = _
  rw [if_neg]
  omega
theorem zRng_put {h : zH} {A o : Nat} {e : Nat → Int} {m : Nat} {x : Int} (hm : m < 64) : zput (zRng h A o e) A (o + m) x = zRng h A o (upi e m x) := by
  unfold zRng upi zput
  refine Prod.ext ?_ rfl
  funext q j
  show (if q = A ∧ j = o + m then x else if q = A ∧ o ≤ j ∧ j < o + 64 then e (j - o) else h.1 q j) = if q = A ∧ o ≤ j ∧ j < o + 64 then (if j - o = m then x else e (j - o)) else h.1 q j
  by_cases hq : q = A
  · by_cases h1 : j = o + m
    · rw [if_pos ⟨hq, h1⟩, if_pos ⟨hq, by omega, by omega⟩, if_pos (by omega)]
    · rw [if_neg (fun z => h1 z.2)]
      by_cases h2 : o ≤ j ∧ j < o + 64
      · rw [if_pos ⟨hq, h2⟩, if_pos ⟨hq, h2⟩, if_neg (by omega)]
      · rw [if_neg (fun z => h2 z.2), if_neg (fun z => h2 z.2)]
  · rw [if_neg (fun z => hq z.1), if_neg (fun z => hq z.1), if_neg (fun z => hq z.1)]
theorem zRng_id {h : zH} {A o : Nat} {e : Nat → Int} (he : ∀ j, j < 64 → e j = h.1 A (o + j)) : zRng h A o e = h := by
  refine Prod.ext ?_ rfl
  funext q j
  show (if q = A ∧ o ≤ j ∧ j < o + 64 then e (j - o) else h.1 q j) = h.1 q j
  by_cases hq : q = A ∧ o ≤ j ∧ j < o + 64
  · have ej : o + (j - o) = j := by omega
    rw [if_pos hq, he _ (by omega), hq.1, ej]
  · rw [if_neg hq]
/-- the error of the frame t -/
def sStep (e : Nat → Int) (d g trip t : Int) : Int := zmax (-100000) (zmin 100000 (e ((t - 1) % 64).toNat + d - (if 0 ≤ t - 1 - trip then (e ((t - 1 - trip) % 64).toNat * g).tdiv 100 else 0)))
def eB (e : Nat → Int) : Prop := ∀ j, j < 64 → -100000 ≤ e j ∧ e j ≤ 100000
theorem sStep_b {e : Nat → Int} {d g trip t : Int} : -100000 ≤ sStep e d g trip t ∧ sStep e d g trip t ≤ 100000 := by
  unfold sStep
  generalize _ + d - _ = x
  unfold zmax zmin
  repeat' split
  all_goals omega
theorem upi_b {e : Nat → Int} {m : Nat} {x : Int} (he : eB e) (hx : -100000 ≤ x ∧ x ≤ 100000) : eB (upi e m x) := by
  intro j hj
  unfold upi
  split
  · exact hx
  · exact he j hj
theorem gainB {x g : Int} (hx : -100000 ≤ x ∧ x ≤ 100000) (hg : 1 ≤ g ∧ g ≤ 100) : zw (x * g) = x * g ∧ zw ((x * g).tdiv 100) = (x * g).tdiv 100 ∧ -100000 ≤ (x * g).tdiv 100 ∧ (x * g).tdiv 100 ≤ 100000 := by
  have h1 : x * g ≤ 10000000 := by
    have a : x * g ≤ 100000 * g := Int.mul_le_mul_of_nonneg_right hx.2 (by omega)
    omega
  have h2 : -10000000 ≤ x * g := by
    have a : -100000 * g ≤ x * g := Int.mul_le_mul_of_nonneg_right hx.1 (by omega)
    omega
  generalize x * g = y at h1 h2
  have h3 : -100000 ≤ y.tdiv 100 ∧ y.tdiv 100 ≤ 100000 := by
    by_cases hy : 0 ≤ y
    · rw [Int.tdiv_eq_ediv_of_nonneg hy]
      omega
    · have e := Int.neg_tdiv (a := y) (b := 100)
      rw [Int.tdiv_eq_ediv_of_nonneg (by omega)] at e
      omega
  exact ⟨zw_id ⟨by omega, by omega⟩, zw_id ⟨by omega, by omega⟩, h3⟩
theorem e5_keep {h : zH} {P : Nat} {t trip g d : Int} {e : Nat → Int} (ht : 1 ≤ t ∧ t ≤ 100000) (hp : 0 ≤ trip ∧ trip ≤ 50) (hg : 1 ≤ g ∧ g ≤ 100) (hd : h.1 P 2 = d) (hdb : -50 ≤ d ∧ d ≤ 50)
    (he : ∀ j, j < 64 → h.1 (h.2 P 7) j = e j) (hb : eB e) : q_X5_keepTime h P t trip g = some ((), zput h (h.2 P 7) (t % 64).toNat (sStep e d g trip t)) := by
  have hm1 : ((t - 1) % 64).toNat < 64 := by omega
  have b1 := hb _ hm1
  have gt : ∀ (γ : Type) (E : Option γ), zgi 64 (t % 64) E = E := fun _ _ => zgi_pos (by omega) (by omega)
  have r1 : q_X5_errorIn h P (t - 1) = some (e ((t - 1) % 64).toNat) := by
    unfold q_X5_errorIn
    rw [zand_63 (by omega) (by omega), zgi_pos (by omega) (by omega), he _ hm1]
  have a1 : zand t 63 = t % 64 := zand_63 (by omega) (by omega)
  have z1 : zw (t - 1) = t - 1 := by clear a1; exact zw_id ⟨by omega, by omega⟩
  have z2 : zw (t - 1 - trip) = t - 1 - trip := by clear a1 z1; exact zw_id ⟨by omega, by omega⟩
  unfold q_X5_keepTime
  simp only [zlet_b]
  rw [z1, z2, r1, a1, hd]
  clear z1 z2 a1
  unfold sStep
  by_cases hq : 0 ≤ t - 1 - trip
  · have hm2 : ((t - 1 - trip) % 64).toNat < 64 := by omega
    have b2 := hb _ hm2
    have r2 : q_X5_errorIn h P (t - 1 - trip) = some (e ((t - 1 - trip) % 64).toNat) := by
      unfold q_X5_errorIn
      rw [zand_63 (by omega) (by omega), zgi_pos (by omega) (by omega), he _ hm2]
    obtain ⟨g1, g2, g3, g4⟩ := gainB b2 hg
    rw [if_pos hq, if_pos hq, r2, zbp_some, g1, g2, zgz_pos (by decide)]
    clear g1 g2
    generalize ((e ((t - 1 - trip) % 64).toNat) * g).tdiv 100 = y at g3 g4
    generalize e ((t - 1) % 64).toNat = x at b1
    have w1 : zw (x + d) = x + d := zw_id ⟨by omega, by omega⟩
    have w2 : zw (x + d - y) = x + d - y := by clear w1; exact zw_id ⟨by omega, by omega⟩
    rw [zbp_some, w1, w2, gt]
  · rw [if_neg hq, if_neg hq]
    generalize e ((t - 1) % 64).toNat = x at b1
    have w1 : zw (x + d) = x + d := zw_id ⟨by omega, by omega⟩
    have w2 : zw (x + d - 0) = x + d - 0 := by clear w1; exact zw_id ⟨by omega, by omega⟩
    rw [zbp_some, w1, w2, gt]
def sTripD (d n : Int) : Int := (2 * d + n - 1).tdiv n
theorem zgpos {n m : Nat} (hm : m < n) {γ : Type} {E : Option γ} : zgi n (m : Int) E = E := zgi_pos (by omega) (by omega)
theorem zcpy_s {h : zH} {a b n : Nat} (hab : a ≠ b) : zput (zcpy h a b n) b n ((zcpy h a b n).1 a n) = zcpy h a b (n + 1) := by
  refine Prod.ext ?_ rfl
  funext q j
  show (if q = b ∧ j = n then (if a = b ∧ n < n then h.1 a n else h.1 a n) else if q = b ∧ j < n then h.1 a j else h.1 q j) = if q = b ∧ j < n + 1 then h.1 a j else h.1 q j
  rw [if_neg (show ¬ (a = b ∧ n < n) from fun z => hab z.1)]
  by_cases hq : q = b
  · by_cases h1 : j = n
    · rw [if_pos ⟨hq, h1⟩, if_pos ⟨hq, by omega⟩, h1]
    · rw [if_neg (fun z => h1 z.2)]
      by_cases h2 : j < n
      · rw [if_pos ⟨hq, h2⟩, if_pos ⟨hq, by omega⟩]
      · rw [if_neg (fun z => h2 z.2), if_neg (fun z => h2 (by omega))]
  · rw [if_neg (fun z => hq z.1), if_neg (fun z => hq z.1), if_neg (fun z => hq z.1)]
theorem e5_copy {h : zH} {P A : Nat} (h1 : A ≠ P) (h2 : h.2 P 7 ≠ P) (h3 : h.2 A 7 ≠ P) : ∃ hc, q_X5_copyFrom h P A = some ((), hc) ∧ hc.2 = h.2 ∧ (∀ q j, q ≠ P → q ≠ h.2 P 7 → hc.1 q j = h.1 q j) ∧ (∀ j, j < 7 → hc.1 P j = h.1 A j) ∧ ∀ j, j < 64 → hc.1 (h.2 P 7) j = h.1 (h.2 A 7) j := by
  unfold q_X5_copyFrom
  simp only [zlet_b]
  refine ⟨_, rfl, rfl, fun q j q1 q2 => ?_, fun j hj => ?_, fun j hj => ?_⟩
  · simp only [zcpy, zput_1, zput_2]
    simp [q1, q2]
  · simp only [zcpy, zput_1, zput_2]
    rw [if_neg (fun z => h2 z.1.symm)]
    have hA : ∀ i : Nat, ¬ (A = P ∧ i = i) := fun i z => h1 z.1
    obtain rfl | rfl | rfl | rfl | rfl | rfl | rfl : j = 0 ∨ j = 1 ∨ j = 2 ∨ j = 3 ∨ j = 4 ∨ j = 5 ∨ j = 6 := by omega
    all_goals simp [h1]
  · simp only [zcpy, zput_1, zput_2]
    simp [hj, h3]
theorem zcpy_at {h : zH} {a b n j : Nat} (hj : j < n) : (zcpy h a b n).1 b j = h.1 a j := by
  show (if b = b ∧ j < n then h.1 a j else h.1 b j) = _
  rw [if_pos ⟨rfl, hj⟩]
theorem zcpy_ne {h : zH} {a b n q j : Nat} (hj : q ≠ b ∨ n ≤ j) : (zcpy h a b n).1 q j = h.1 q j := by
  show (if q = b ∧ j < n then h.1 a j else h.1 q j) = _
  rw [if_neg]
  omega
section OPS
variable {B : Nat}
theorem zS_cur {h h' : zH} (hs : zSame B h h') : vw h'.1 (B + 1) = vw h.1 (B + 1) := hs.vw (fun _ ho _ => zScrt_cur ho)
theorem e4_tripP {h : zH} {A P : Nat} {d : Int} (hc : CV h A) (hp : h.1 P 1 = d) (hd : 0 ≤ d ∧ d ≤ 5000) : q_X4_tripOf h A P = some (sTripD d (vw h.1 A 1 0)) := by
  have hw := hc.2.set.1
  have h0 : ¬ vw h.1 A 1 0 ≤ 0 := by omega
  have h00 : ¬ vw h.1 A 1 0 = 0 := by omega
  obtain ⟨t1, t2, t3, t4⟩ := tripN hd hw
  unfold q_X4_tripOf
  simp only [zlet_b]
  rw [a_set hc, hp, if_neg h0, zgz_pos h00, t1, t4]
  rfl
theorem sTripD_b {d n : Int} (hd : 0 ≤ d ∧ d ≤ 5000) (hn : 200 ≤ n ∧ n ≤ 5000) : 0 ≤ sTripD d n ∧ sTripD d n ≤ 50 := by
  obtain ⟨t1, t2, t3, t4⟩ := tripN hd hn
  exact ⟨t2, t3⟩
/-- the errors of a station when n more frames have passed -/
def sRun (v : Nat → Nat → Int) (s n : Nat) : Nat → Int := zit (fun (e : Nat → Int) i => upi e ((v 0 0 + 1 + (i : Int)) % 64).toNat (sStep e (v (5 + 2 * s) 2) (v 1 6) (sTripD (v (5 + 2 * s) 1) (v 1 0)) (v 0 0 + 1 + (i : Int)))) n (v (6 + 2 * s))
def sErr (v : Nat → Nat → Int) (s n : Nat) : Int := sRun v s n ((v 0 0 + (n : Int)) % 64).toNat
theorem sRun_b {v : Nat → Nat → Int} (w : WF v) {s : Nat} (hs : (s : Int) < v 0 3) (n : Nat) : eB (sRun v s n) := by
  refine zit_inv (fun _ (e : Nat → Int) => eB e) (w.2.2.2.2.2.2.1 s hs).2.2.2.2.2 n (fun i _ x hx => upi_b hx sStep_b)
/-- the probe, after a station is copied into it -/
def Prb (B : Nat) (h hc : zH) (s : Nat) : Prop := zSame B h hc ∧ hc.1 (B + 83) 1 = vw h.1 (B + 1) (5 + 2 * s) 1 ∧ hc.1 (B + 83) 2 = vw h.1 (B + 1) (5 + 2 * s) 2 ∧ ∀ j, j < 64 → hc.1 (B + 84) j = vw h.1 (B + 1) (6 + 2 * s) j
theorem zInv.r2 {h : zH} (hI : zInv B h) : h.2 B 2 = B + 83 := hI.1 0 (by decide) (by decide) 2
theorem zInv.rp {h : zH} (hI : zInv B h) : h.2 (B + 83) 7 = B + 84 := hI.1 83 (by decide) (by decide) 7
theorem e7_probe {h : zH} (hI : zInv B h) {s : Nat} (hs : (s : Int) < vw h.1 (B + 1) 0 3) : ∃ hc, q_X5_copyFrom h (h.2 B 2) (B + 1 + (5 + 2 * s)) = some ((), hc) ∧ Prb B h hc s := by
  have hns := hI.wf.nS
  have hs6 : s < 6 := by omega
  have her : h.2 (B + 1 + (5 + 2 * s)) 7 = B + 1 + (6 + 2 * s) := hI.cly.er hs6
  rw [hI.r2]
  obtain ⟨hc, k1, k2, k3, k4, k5⟩ := e5_copy (h := h) (P := B + 83) (A := B + 1 + (5 + 2 * s)) (by omega) (by rw [hI.rp]; omega) (by rw [her]; omega)
  rw [hI.rp] at k3 k5
  refine ⟨hc, k1, ⟨k2, fun a j hq => ?_⟩, ?_, ?_, fun j hj => ?_⟩
  · refine k3 a j (fun z => hq ?_) (fun z => hq ?_)
    · unfold zScrt; omega
    · unfold zScrt; omega
  · rw [k4 1 (by decide), a_s hs6]
  · rw [k4 2 (by decide), a_s hs6]
  · rw [k5 j hj, her, a_e hs6]
theorem zSame.rng {h hc : zH} (hs : zSame B h hc) {e : Nat → Int} : zSame B h (zRng hc (B + 84) 0 e) := by
  refine ⟨hs.1, fun a j hq => ?_⟩
  have ha : a ≠ B + 84 := fun z => hq (by unfold zScrt; omega)
  rw [zRng_ne (Or.inl ha)]
  exact hs.2 a j hq
/-- one frame of the probe -/
theorem e7_pstep {h hc : zH} (hI : zInv B h) {s : Nat} (hs : (s : Int) < vw h.1 (B + 1) 0 3) (hp : Prb B h hc s) {e : Nat → Int} (he : eB e) {t : Int} (ht : 1 ≤ t ∧ t ≤ 100000) :
    q_X4_tripOf (zRng hc (B + 84) 0 e) (B + 1) (B + 83) = some (sTripD (vw h.1 (B + 1) (5 + 2 * s) 1) (vw h.1 (B + 1) 1 0))
    ∧ q_X5_keepTime (zRng hc (B + 84) 0 e) (B + 83) t (sTripD (vw h.1 (B + 1) (5 + 2 * s) 1) (vw h.1 (B + 1) 1 0)) (vw h.1 (B + 1) 1 6) = some ((), zRng hc (B + 84) 0 (upi e (t % 64).toNat (sStep e (vw h.1 (B + 1) (5 + 2 * s) 2) (vw h.1 (B + 1) 1 6) (sTripD (vw h.1 (B + 1) (5 + 2 * s) 1) (vw h.1 (B + 1) 1 0)) t))) := by
  have hS : zSame B h (zRng hc (B + 84) 0 e) := hp.1.rng
  have hI' := hI.same hS
  have hW := (hI.wf.2.2.2.2.2.2.1 s hs)
  have hset := hI.wf.set
  have p1 : (zRng hc (B + 84) 0 e).1 (B + 83) 1 = vw h.1 (B + 1) (5 + 2 * s) 1 := by rw [zRng_ne (Or.inl (by omega))]; exact hp.2.1
  have p2 : (zRng hc (B + 84) 0 e).1 (B + 83) 2 = vw h.1 (B + 1) (5 + 2 * s) 2 := by rw [zRng_ne (Or.inl (by omega))]; exact hp.2.2.1
  have hr : (zRng hc (B + 84) 0 e).2 (B + 83) 7 = B + 84 := hI'.rp
  constructor
  · have := e4_tripP hI'.cv p1 hW.1
    rw [zS_cur hS] at this
    exact this
  · have k := e5_keep (h := zRng hc (B + 84) 0 e) (P := B + 83) (t := t) (e := e) ht (sTripD_b hW.1 hset.1) hset.2.2.2.2.2.2 p2 hW.2.1 (fun j hj => by
      rw [hr]
      have := zRng_at (h := hc) (A := B + 84) (o := 0) (e := e) hj
      rw [Nat.zero_add] at this
      exact this) he
    rw [k, hr]
    have z := zRng_put (h := hc) (A := B + 84) (o := 0) (e := e) (m := (t % 64).toNat) (x := sStep e (vw h.1 (B + 1) (5 + 2 * s) 2) (vw h.1 (B + 1) 1 6) (sTripD (vw h.1 (B + 1) (5 + 2 * s) 1) (vw h.1 (B + 1) 1 0)) t) (by omega)
    rw [Nat.zero_add] at z
    rw [z]
theorem e5_errP {hc : zH} {P : Nat} {e : Nat → Int} (hr : (zRng hc (P + 1) 0 e).2 P 7 = P + 1) {t : Int} (ht : 0 ≤ t ∧ t ≤ 100000) : q_X5_errorIn (zRng hc (P + 1) 0 e) P t = some (e (t % 64).toNat) := by
  have hj : (t % 64).toNat < 64 := by omega
  unfold q_X5_errorIn
  rw [zand_63 (by omega) (by omega), zgi_pos (by omega) (by omega), hr]
  have := zRng_at (h := hc) (A := P + 1) (o := 0) (e := e) hj
  rw [Nat.zero_add] at this
  rw [this]
theorem zput_2x {h : zH} {a j : Nat} {x : Int} : zput (zput h a j x) a j x = zput h a j x := by
  refine Prod.ext ?_ rfl
  funext q i
  rw [zput_1]
  split
  · next z => rw [z.1, z.2, zput_self]
  · rfl
def sInT (v : Nat → Nat → Int) (s : Nat) : Int := match zfs (fun i => decide (v 1 1 < 2 * zabs (sErr v s i))) 201 0 with | none => -1 | some i => (i : Int)
theorem sErr_b {v : Nat → Nat → Int} (w : WF v) {s : Nat} (hs : (s : Int) < v 0 3) (n : Nat) : -100000 ≤ sErr v s n ∧ sErr v s n ≤ 100000 := sRun_b w hs n _ (by omega)
theorem abs2 {x : Int} (hx : -100000 ≤ x ∧ x ≤ 100000) : zw (zabs x * 2) = 2 * zabs x := by
  have h : 0 ≤ zabs x ∧ zabs x ≤ 100000 := by
    unfold zabs
    split
    · omega
    · rw [zw_id ⟨by omega, by omega⟩]
      omega
  generalize zabs x = y at h
  rw [zw_id ⟨by omega, by omega⟩]
  omega
end OPS
/-- k comes before l -/
def bf (pr : Nat → Int) (k l : Nat) : Prop := pr l < pr k ∨ (pr k = pr l ∧ k < l)
theorem bf_tr {pr : Nat → Int} {a b c : Nat} (h1 : bf pr a b) (h2 : bf pr b c) : bf pr a c := by unfold bf at *; omega
theorem bf_tot {pr : Nat → Int} {a b : Nat} (h : a ≠ b) (h1 : ¬ bf pr a b) : bf pr b a := by unfold bf at *; omega
theorem bf_as {pr : Nat → Int} {a b : Nat} (h : bf pr a b) : ¬ bf pr b a := by unfold bf at *; omega
/-- the first c places of a hold those of the k below n that are so, in order -/
def Enu (S : Nat → Bool) (pr : Nat → Int) (n c : Nat) (a : Nat → Nat) : Prop :=
  (∀ i, i < c → a i < n ∧ S (a i) = true) ∧ (∀ k, k < n → S k = true → ∃ i, i < c ∧ a i = k) ∧ (∀ i j, i < j → j < c → bf pr (a i) (a j)) ∧ c = nct S n
theorem Enu.skip {S : Nat → Bool} {pr : Nat → Int} {n c : Nat} {a : Nat → Nat} (h : Enu S pr n c a) (hs : ¬ S n = true) : Enu S pr (n + 1) c a := by
  refine ⟨fun i hi => ⟨by have := (h.1 i hi).1; omega, (h.1 i hi).2⟩, fun k hk hk2 => ?_, h.2.2.1, ?_⟩
  · have : k ≠ n := fun z => hs (z ▸ hk2)
    exact h.2.1 k (by omega) hk2
  · rw [nct_s, if_neg hs]; exact h.2.2.2
def ains (a : Nat → Nat) (p x : Nat) : Nat → Nat := fun j => if j < p then a j else if j = p then x else a (j - 1)
theorem Enu.ins {S : Nat → Bool} {pr : Nat → Int} {n c p : Nat} {a : Nat → Nat} (h : Enu S pr n c a) (hs : S n = true) (hp : p ≤ c) (h1 : ∀ j, p ≤ j → j < c → bf pr n (a j)) (h2 : p = 0 ∨ ¬ bf pr n (a (p - 1))) : Enu S pr (n + 1) (c + 1) (ains a p n) := by
  have hbelow : ∀ j, j < p → bf pr (a j) n := by
    intro j hj
    have hl : bf pr (a (p - 1)) n := by
      refine bf_tot ?_ (h2.resolve_left (by omega))
      have := (h.1 (p - 1) (by omega)).1
      omega
    by_cases e : j = p - 1
    · rw [e]; exact hl
    · exact bf_tr (h.2.2.1 j (p - 1) (by omega) (by omega)) hl
  refine ⟨fun i hi => ?_, fun k hk hk2 => ?_, fun i j hij hj => ?_, ?_⟩
  · unfold ains
    split
    · exact ⟨by have := (h.1 i (by omega)).1; omega, (h.1 i (by omega)).2⟩
    · split
      · exact ⟨by omega, hs⟩
      · exact ⟨by have := (h.1 (i - 1) (by omega)).1; omega, (h.1 (i - 1) (by omega)).2⟩
  · by_cases e : k = n
    · refine ⟨p, by omega, ?_⟩
      unfold ains
      rw [if_neg (by omega), if_pos rfl, e]
    · obtain ⟨i, q1, q2⟩ := h.2.1 k (by omega) hk2
      by_cases hi : i < p
      · refine ⟨i, by omega, ?_⟩
        unfold ains
        rw [if_pos hi, q2]
      · refine ⟨i + 1, by omega, ?_⟩
        unfold ains
        rw [if_neg (by omega), if_neg (by omega), Nat.add_sub_cancel, q2]
  · unfold ains
    by_cases q1 : i < p
    · rw [if_pos q1]
      by_cases q2 : j < p
      · rw [if_pos q2]; exact h.2.2.1 i j hij (by omega)
      · rw [if_neg q2]
        by_cases q3 : j = p
        · rw [if_pos q3]; exact hbelow i q1
        · rw [if_neg q3]; exact h.2.2.1 i (j - 1) (by omega) (by omega)
    · rw [if_neg q1, if_neg (show ¬ j < p by omega), if_neg (show ¬ j = p by omega)]
      by_cases q2 : i = p
      · rw [if_pos q2]; exact h1 (j - 1) (by omega) (by omega)
      · rw [if_neg q2]; exact h.2.2.1 (i - 1) (j - 1) (by omega) (by omega)
  · rw [nct_s, if_pos hs, h.2.2.2]
theorem z_bit {m k : Nat} (hm : m < 65536) (hk : k < 16) : zand (zshr (m : Int) (k : Int)) 1 = 0 ↔ ¬ m.testBit k = true := by
  have e := e_isIn (h := (fun _ _ => 0, fun _ _ => 0)) hm hk
  unfold q_X4_isIn at e
  generalize zand (zshr (m : Int) (k : Int)) 1 = x at e
  by_cases q : m.testBit k = true
  · rw [if_pos q] at e
    by_cases q2 : x = 0
    · rw [if_pos q2] at e
      exact absurd (Option.some.inj e) (by decide)
    · exact ⟨fun z => absurd z q2, fun z => absurd q z⟩
  · rw [if_neg q] at e
    by_cases q2 : x = 0
    · exact ⟨fun _ => q, fun _ => q2⟩
    · rw [if_neg q2] at e
      exact absurd (Option.some.inj e) (by decide)
section OPS
variable {B : Nat}
/-- the calls whose state is in a mask -/
def sMk (v : Nat → Nat → Int) (m : Nat) : Nat → Bool := fun k => m.testBit (v (25 + k) 5).toNat
end OPS
theorem zushr_nat {m k : Nat} (hm : m < 2147483648) (hk : k < 32) : zushr (m : Int) (k : Int) = ((m >>> k : Nat) : Int) := by
  have h3 : ∀ k : Nat, k < 32 → ((zi (k : Int)).toUInt32 &&& Int32.toUInt32 31).toBitVec.toNat = k := by decide
  have hlt : m >>> k < 2147483648 := Nat.lt_of_le_of_lt (Nat.shiftRight_le _ _) hm
  have e : (((zi (m : Int)).toUInt32 >>> ((zi (k : Int)).toUInt32 &&& Int32.toUInt32 31)).toInt32).toBitVec.toNat = m >>> k := by
    show ((zi (m : Int)).toUInt32 >>> ((zi (k : Int)).toUInt32 &&& Int32.toUInt32 31)).toBitVec.toNat = m >>> k
    rw [UInt32.toBitVec_shiftRight]
    have h4 := h3 k hk
    generalize ((zi (k : Int)).toUInt32 &&& Int32.toUInt32 31).toBitVec = y at h4
    rw [show (zi (m : Int)).toUInt32.toBitVec >>> (y % 32) = (zi (m : Int)).toUInt32.toBitVec >>> (y % 32).toNat from rfl, BitVec.toNat_ushiftRight, BitVec.toNat_umod, h4]
    have h5 : (zi (m : Int)).toUInt32.toBitVec.toNat = m := zi_bv (by omega)
    rw [h5]
    show m >>> (k % 32) = _
    rw [Nat.mod_eq_of_lt hk]
  unfold zushr
  rw [bv_int (by rw [e]; exact hlt), e]
/-- the count of bits, in natural numbers -/
def popN (m : Nat) : Nat :=
  let a := m - (m >>> 1 &&& 1431655765)
  let b := (a &&& 858993459) + (a >>> 2 &&& 858993459)
  let c := (b + b >>> 4) &&& 252645135
  let d := c + c >>> 8
  let f := d + d >>> 16
  f &&& 63
theorem sBC_nat {m : Nat} (hm : m < 65536) : sBC (m : Int) = (popN m : Int) := by
  have k1 : m >>> 1 &&& 1431655765 ≤ m := Nat.le_trans Nat.and_le_left (Nat.shiftRight_le _ _)
  have e1 : zw ((m : Int) - zand (zushr (m : Int) 1) 1431655765) = ((m - (m >>> 1 &&& 1431655765) : Nat) : Int) := by
    have z1 : zushr (m : Int) 1 = ((m >>> 1 : Nat) : Int) := zushr_nat (k := 1) (by omega) (by decide)
    have z2 : zand ((m >>> 1 : Nat) : Int) 1431655765 = ((m >>> 1 &&& 1431655765 : Nat) : Int) := zand_nat (n := 1431655765) (Nat.lt_of_le_of_lt (Nat.shiftRight_le _ _) (by omega)) (by decide)
    rw [z1, z2]
    clear z1 z2
    rw [zw_id ⟨by omega, by omega⟩]
    omega
  have step : ∀ x y : Nat, x < 1000000 → y < 1000000 → zw ((x : Int) + (y : Int)) = ((x + y : Nat) : Int) := fun x y hx hy => by
    rw [zw_id ⟨by omega, by omega⟩]
    omega
  have hand : ∀ x n : Nat, x < 1000000 → n < 2147483648 → zand (x : Int) (n : Int) = ((x &&& n : Nat) : Int) := fun x n hx hn => zand_nat (by omega) hn
  have hus : ∀ x k : Nat, x < 1000000 → k < 32 → zushr (x : Int) (k : Int) = ((x >>> k : Nat) : Int) := fun x k hx hk => zushr_nat (by omega) hk
  have la : ∀ x n : Nat, x &&& n ≤ x := fun x n => Nat.and_le_left
  have ls : ∀ x n : Nat, x >>> n ≤ x := fun x n => Nat.shiftRight_le _ _
  unfold sBC popN
  simp only []
  rw [e1]
  clear e1
  have ha : m - (m >>> 1 &&& 1431655765) < 65536 := by omega
  generalize m - (m >>> 1 &&& 1431655765) = a at ha
  have a1 := la a 858993459
  have a2 := la (a >>> 2) 858993459
  have a3 := ls a 2
  have e2 : zw (zand (a : Int) 858993459 + zand (zushr (a : Int) 2) 858993459) = (((a &&& 858993459) + (a >>> 2 &&& 858993459) : Nat) : Int) := by
    have y1 : zand (a : Int) 858993459 = ((a &&& 858993459 : Nat) : Int) := hand a 858993459 (by omega) (by decide)
    have y2 : zushr (a : Int) 2 = ((a >>> 2 : Nat) : Int) := hus a 2 (by omega) (by decide)
    have y3 : zand ((a >>> 2 : Nat) : Int) 858993459 = ((a >>> 2 &&& 858993459 : Nat) : Int) := hand (a >>> 2) 858993459 (by omega) (by decide)
    rw [y1, y2, y3, step _ _ (by clear y1 y2 y3; omega) (by clear y1 y2 y3; omega)]
  rw [e2]
  clear e2
  have hb : (a &&& 858993459) + (a >>> 2 &&& 858993459) < 140000 := by omega
  generalize (a &&& 858993459) + (a >>> 2 &&& 858993459) = b at hb
  have b1 := ls b 4
  have b2 := la (b + b >>> 4) 252645135
  have e3 : zand (zw ((b : Int) + zushr (b : Int) 4)) 252645135 = ((b + b >>> 4 &&& 252645135 : Nat) : Int) := by
    have y1 : zushr (b : Int) 4 = ((b >>> 4 : Nat) : Int) := hus b 4 (by omega) (by decide)
    rw [y1, step _ _ (by clear y1; omega) (by clear y1; omega)]
    exact hand _ 252645135 (by clear y1; omega) (by decide)
  rw [e3]
  clear e3
  have hc : b + b >>> 4 &&& 252645135 < 280000 := by omega
  generalize b + b >>> 4 &&& 252645135 = c at hc
  have c1 := ls c 8
  have e4 : zw ((c : Int) + zushr (c : Int) 8) = ((c + c >>> 8 : Nat) : Int) := by
    have y1 : zushr (c : Int) 8 = ((c >>> 8 : Nat) : Int) := hus c 8 (by omega) (by decide)
    rw [y1, step _ _ (by clear y1; omega) (by clear y1; omega)]
  rw [e4]
  clear e4
  have hd : c + c >>> 8 < 560000 := by omega
  generalize c + c >>> 8 = d at hd
  have d1 := ls d 16
  have y1 : zushr (d : Int) 16 = ((d >>> 16 : Nat) : Int) := hus d 16 (by omega) (by decide)
  rw [y1, step _ _ (by clear y1; omega) (by clear y1; omega)]
  exact hand _ 63 (by clear y1; omega) (by decide)
def pOk (i : Nat) : Prop := ∀ a, a < 8 → ∀ b, b < 256 → (popN (2 * (2048 * i + 256 * a + b)) = popN (2048 * i + 256 * a + b) ∧ popN (2 * (2048 * i + 256 * a + b) + 1) = popN (2048 * i + 256 * a + b) + 1)
theorem pOk_0 : pOk 0 := by unfold pOk; decide +kernel
theorem pOk_1 : pOk 1 := by unfold pOk; decide +kernel
theorem pOk_2 : pOk 2 := by unfold pOk; decide +kernel
theorem pOk_3 : pOk 3 := by unfold pOk; decide +kernel
theorem pOk_4 : pOk 4 := by unfold pOk; decide +kernel
theorem pOk_5 : pOk 5 := by unfold pOk; decide +kernel
theorem pOk_6 : pOk 6 := by unfold pOk; decide +kernel
theorem pOk_7 : pOk 7 := by unfold pOk; decide +kernel
theorem pOk_8 : pOk 8 := by unfold pOk; decide +kernel
theorem pOk_9 : pOk 9 := by unfold pOk; decide +kernel
theorem pOk_10 : pOk 10 := by unfold pOk; decide +kernel
theorem pOk_11 : pOk 11 := by unfold pOk; decide +kernel
theorem pOk_12 : pOk 12 := by unfold pOk; decide +kernel
theorem pOk_13 : pOk 13 := by unfold pOk; decide +kernel
theorem pOk_14 : pOk 14 := by unfold pOk; decide +kernel
theorem pOk_15 : pOk 15 := by unfold pOk; decide +kernel
theorem pOk_all : ∀ i, i < 16 → pOk i := by
  intro i hi
  obtain rfl | rfl | rfl | rfl | rfl | rfl | rfl | rfl | rfl | rfl | rfl | rfl | rfl | rfl | rfl | rfl : i = 0 ∨ i = 1 ∨ i = 2 ∨ i = 3 ∨ i = 4 ∨ i = 5 ∨ i = 6 ∨ i = 7 ∨ i = 8 ∨ i = 9 ∨ i = 10 ∨ i = 11 ∨ i = 12 ∨ i = 13 ∨ i = 14 ∨ i = 15 := by omega
  · exact pOk_0
  · exact pOk_1
  · exact pOk_2
  · exact pOk_3
  · exact pOk_4
  · exact pOk_5
  · exact pOk_6
  · exact pOk_7
  · exact pOk_8
  · exact pOk_9
  · exact pOk_10
  · exact pOk_11
  · exact pOk_12
  · exact pOk_13
  · exact pOk_14
  · exact pOk_15
theorem popN_s {m : Nat} (hm : m < 65536) : popN m = popN (m / 2) + m % 2 := by
  have h := pOk_all (m / 2 / 2048) (by omega) (m / 2 % 2048 / 256) (by omega) (m / 2 % 256) (by omega)
  have e : 2048 * (m / 2 / 2048) + 256 * (m / 2 % 2048 / 256) + m / 2 % 256 = m / 2 := by omega
  rw [e] at h
  by_cases q : m % 2 = 0
  · have e2 : 2 * (m / 2) = m := by omega
    rw [e2] at h
    omega
  · have e2 : 2 * (m / 2) + 1 = m := by omega
    rw [e2] at h
    omega
theorem nct_half {m : Nat} : ∀ r, nct (fun k => m.testBit k) (r + 1) = m % 2 + nct (fun k => (m / 2).testBit k) r := by
  intro r
  induction r with
  | zero =>
    rw [nct_s]
    have e : (m.testBit 0 = true) ↔ m % 2 = 1 := by rw [Nat.testBit_zero, decide_eq_true_eq]
    by_cases q : m.testBit 0 = true
    · rw [if_pos q]
      have := e.mp q
      show 0 + 1 = m % 2 + 0
      omega
    · rw [if_neg q]
      have : ¬ m % 2 = 1 := fun z => q (e.mpr z)
      show 0 = m % 2 + 0
      omega
  | succ r ih =>
    rw [nct_s, ih, nct_s (n := r), Nat.testBit_succ]
    split <;> omega
theorem popN_nct : ∀ r m, r ≤ 16 → m < 2 ^ r → popN m = nct (fun k => m.testBit k) r := by
  intro r
  induction r with
  | zero =>
    intro m _ hm
    have e : m = 0 := by omega
    subst e
    rfl
  | succ r ih =>
    intro m hr hm
    have hp : 2 ^ (r + 1) ≤ 2 ^ 16 := Nat.pow_le_pow_right (by decide) hr
    have hp' : 2 ^ (r + 1) ≤ 65536 := hp
    rw [popN_s (by omega), nct_half, ih (m / 2) (by omega) (by rw [Nat.pow_succ] at hm; omega)]
    omega
theorem sBC_set {m : Nat} (hm : m < 65536) : sBC (m : Int) = (nct (fun k => m.testBit k) 16 : Int) := by
  rw [sBC_nat hm, popN_nct 16 m (Nat.le_refl _) hm]
/-- the first of a set -/
def Fst (pr : Nat → Int) (m n : Nat) (b : Int) : Prop := (b = -1 ∧ ∀ k, k < n → ¬ m.testBit k = true) ∨ ∃ r : Nat, b = (r : Int) ∧ r < n ∧ m.testBit r = true ∧ ∀ k, k < n → m.testBit k = true → k ≠ r → bf pr r k
def fstep (pr : Nat → Int) (m : Nat) (b : Int) (k : Nat) : Int := if m.testBit k = true then (if b = -1 then (k : Int) else if pr k ≤ pr b.toNat then b else (k : Int)) else b
theorem Fst.step {pr : Nat → Int} {m n : Nat} {b : Int} (h : Fst pr m n b) : Fst pr m (n + 1) (fstep pr m b n) := by
  unfold fstep
  by_cases hq : m.testBit n = true
  · rw [if_pos hq]
    rcases h with ⟨h1, h2⟩ | ⟨r, h1, h2, h3, h4⟩
    · rw [if_pos h1]
      refine Or.inr ⟨n, rfl, by omega, hq, fun k hk hk2 hk3 => ?_⟩
      exact absurd hk2 (h2 k (by omega))
    · rw [if_neg (by omega), h1, Int.toNat_natCast]
      by_cases hp : pr n ≤ pr r
      · rw [if_pos hp]
        refine Or.inr ⟨r, rfl, by omega, h3, fun k hk hk2 hk3 => ?_⟩
        by_cases e : k = n
        · subst e
          unfold bf
          omega
        · exact h4 k (by omega) hk2 hk3
      · rw [if_neg hp]
        refine Or.inr ⟨n, rfl, by omega, hq, fun k hk hk2 hk3 => ?_⟩
        have h5 : bf pr n r := Or.inl (by omega)
        by_cases e : k = r
        · rw [e]; exact h5
        · exact bf_tr h5 (h4 k (by omega) hk2 e)
  · rw [if_neg hq]
    rcases h with ⟨h1, h2⟩ | ⟨r, h1, h2, h3, h4⟩
    · refine Or.inl ⟨h1, fun k hk => ?_⟩
      by_cases e : k = n
      · rw [e]; exact hq
      · exact h2 k (by omega)
    · refine Or.inr ⟨r, h1, by omega, h3, fun k hk hk2 hk3 => ?_⟩
      have e : k ≠ n := fun z => hq (z ▸ hk2)
      exact h4 k (by omega) hk2 hk3
theorem Fst.uniq {pr : Nat → Int} {m n : Nat} {b : Int} {r : Nat} (h : Fst pr m n b) (h1 : r < n) (h2 : m.testBit r = true) (h3 : ∀ k, k < n → m.testBit k = true → k ≠ r → bf pr r k) : b = (r : Int) := by
  rcases h with ⟨_, q⟩ | ⟨s, q1, q2, q3, q4⟩
  · exact absurd h2 (q r h1)
  · by_cases e : r = s
    · rw [q1, e]
    · exact absurd (h3 s q2 q3 (fun z => e z.symm)) (bf_as (q4 r h1 h2 e))
section CL
variable {h : zH} {A : Nat}
theorem e4_first (hc : CV h A) {m : Nat} (hm : m < 65536) : ∃ b, q_X4_firstInOrder h A (m : Int) = some b ∧ Fst (fun k => vw h.1 A (25 + k) 2) m (nCl (vw h.1 A)) b := by
  have hn := hc.2.nC
  have h0 : Fst (fun k => vw h.1 A (25 + k) 2) m 0 (-1) := Or.inl ⟨rfl, fun k hk => by omega⟩
  have hs : ∀ b i, i < nCl (vw h.1 A) → Fst (fun k => vw h.1 A (25 + k) 2) m i b → Fst (fun k => vw h.1 A (25 + k) 2) m (i + 1) (fstep (fun k => vw h.1 A (25 + k) 2) m b i) := fun b i _ q => q.step
  refine ⟨zit (fstep (fun k => vw h.1 A (25 + k) 2) m) (nCl (vw h.1 A)) (-1), ?_, zit_inv (fun i b => Fst (fun k => vw h.1 A (25 + k) 2) m i b) h0 _ (fun i hi x hx => hx.step)⟩
  unfold q_X4_firstInOrder
  refine zloopQ (L := fun f b i => q_X4_firstInOrder_L4 h A (m : Int) (fun x _ => some x) f b i) (kf := fun b => some b) (fstep (fun k => vw h.1 A (25 + k) 2) m) (fun i b => Fst (fun k => vw h.1 A (25 + k) 2) m i b) (by omega) h0 hs (fun f b i hi hF => ?_) (fun f b hF => ?_)
  · have hi16 : i < 16 := by omega
    show q_X4_firstInOrder_L4 h A (m : Int) _ (f + 1) b (i : Int) = _
    rw [q_X4_firstInOrder_L4]
    simp only [zlet_b]
    rw [a_n7 hc, if_neg (by omega), e_isIn hm hi16, zbp_some, zw_s (by omega)]
    unfold fstep
    by_cases hq : m.testBit i = true
    · rw [if_pos hq, if_neg one0, if_pos hq]
      rcases hF with ⟨h1, h2⟩ | ⟨r, h1, h2, h3, h4⟩
      · rw [if_pos h1, if_pos h1]
      · subst h1
        have hr : ¬ (r : Int) = -1 := by omega
        have hr16 : r < 16 := by omega
        rw [if_neg hr, if_neg hr, zgpos hi16, zgpos hr16, Int.toNat_natCast, Int.toNat_natCast, a_call hc, a_call hc, a_c hi16, a_c hr16]
        by_cases hp : vw h.1 A (25 + i) 2 ≤ vw h.1 A (25 + r) 2
        · rw [if_pos hp, if_pos hp]
        · rw [if_neg hp, if_neg hp]
    · rw [if_neg hq, if_pos rfl, if_neg hq]
  · show q_X4_firstInOrder_L4 h A (m : Int) _ (f + 1) b (nCl (vw h.1 A) : Int) = _
    rw [q_X4_firstInOrder_L4, a_n7 hc, if_pos (Int.le_refl _)]
end CL
theorem m1n : (zi (-1)).toBitVec = BitVec.allOnes 32 := by decide
/-- a set without one -/
theorem z_rem {m k : Nat} (hm : m < 65536) (hk : k < 16) : ∃ m' : Nat, zand (m : Int) (zxor (zshl 1 (k : Int)) (-1)) = (m' : Int) ∧ m' ≤ m ∧ ∀ j, m'.testBit j = (m.testBit j && decide (j ≠ k)) := by
  have hp : 2 ^ k < 2 ^ 16 := Nat.pow_lt_pow_right (by decide) hk
  have hp' : 2 ^ k < 65536 := hp
  refine ⟨((zi (m : Int)).toBitVec &&& ~~~ (zi ((2 ^ k : Nat) : Int)).toBitVec).toNat, ?_, ?_, fun j => ?_⟩
  · rw [zshl_1 k hk]
    unfold zand zxor
    have e1 : zi ((zi ((2 ^ k : Nat) : Int) ^^^ zi (-1)).toInt) = zi ((2 ^ k : Nat) : Int) ^^^ zi (-1) := zi_of _
    rw [e1]
    have e2 : (zi (m : Int) &&& (zi ((2 ^ k : Nat) : Int) ^^^ zi (-1))).toBitVec = (zi (m : Int)).toBitVec &&& ~~~ (zi ((2 ^ k : Nat) : Int)).toBitVec := by
      rw [Int32.toBitVec_and, Int32.toBitVec_xor, m1n, BitVec.xor_allOnes]
    have hlt : ((zi (m : Int)).toBitVec &&& ~~~ (zi ((2 ^ k : Nat) : Int)).toBitVec).toNat ≤ m := by
      rw [BitVec.toNat_and, zi_bv (by omega)]
      exact Nat.and_le_left
    rw [bv_int (by rw [e2]; omega), e2]
  · rw [BitVec.toNat_and, zi_bv (by omega)]
    exact Nat.and_le_left
  · rw [BitVec.testBit_toNat, BitVec.getLsbD_and, BitVec.getLsbD_not]
    have a1 : (zi (m : Int)).toBitVec.getLsbD j = m.testBit j := by
      rw [← BitVec.testBit_toNat, zi_bv (by omega)]
    have a2 : (zi ((2 ^ k : Nat) : Int)).toBitVec.getLsbD j = decide (k = j) := by
      rw [← BitVec.testBit_toNat, zi_bv (by omega), Nat.testBit_two_pow]
    rw [a1, a2]
    by_cases hj : j < 32
    · by_cases e : k = j
      · subst e
        simp [hj]
      · have e' : j ≠ k := fun z => e z.symm
        simp [hj, e, e']
    · have : m.testBit j = false := Nat.testBit_lt_two_pow (Nat.lt_of_lt_of_le hm (show 65536 ≤ 2 ^ j from Nat.le_trans (show 65536 ≤ 2 ^ 16 from Nat.le_refl _) (Nat.pow_le_pow_right (by decide) (by omega))))
      rw [this]
      simp
section OPS
variable {B : Nat}
theorem sIn_mk {v : Nat → Nat → Int} (w : WF v) (st : Nat) (hst : st < 3) : ∀ k, k < nCl v → ((fun k => decide (v (25 + k) 5 = (st : Int))) k = sMk v (2 ^ st) k) := by
  intro k hk
  have hn := w.nC
  have h5 := (w.2.2.2.2.2.2.2.2 k (by omega)).2.2.2.2.2.2.1
  unfold sMk
  obtain ⟨s, hs⟩ : ∃ s : Nat, v (25 + k) 5 = (s : Int) := ⟨(v (25 + k) 5).toNat, by omega⟩
  show decide (v (25 + k) 5 = (st : Int)) = _
  rw [hs, Int.toNat_natCast, Nat.testBit_two_pow]
  apply decide_eq_decide.mpr
  omega
theorem Enu.set {S : Nat → Bool} {pr : Nat → Int} {n c : Nat} {a : Nat → Nat} (h : Enu S pr n c a) {i m : Nat} (hi : i < c) (hm : ∀ k, k < n → (m.testBit k = true ↔ ∃ j, i ≤ j ∧ j < c ∧ a j = k)) {b : Int} (hb : Fst pr m n b) : b = (a i : Int) := by
  refine hb.uniq (h.1 i hi).1 ((hm _ (h.1 i hi).1).mpr ⟨i, Nat.le_refl _, hi, rfl⟩) (fun k hk hk2 hk3 => ?_)
  obtain ⟨j, q1, q2, q3⟩ := (hm k hk).mp hk2
  have : i ≠ j := fun z => hk3 (by rw [z]; exact q3.symm)
  rw [← q3]
  exact h.2.2.1 i j (by omega) q2
theorem Enu.inj {S : Nat → Bool} {pr : Nat → Int} {n c : Nat} {a : Nat → Nat} (h : Enu S pr n c a) {i j : Nat} (hi : i < c) (hj : j < c) (e : a i = a j) : i = j := by
  by_cases q : i = j
  · exact q
  · by_cases q2 : i < j
    · have := h.2.2.1 i j q2 hj
      rw [e] at this
      exact absurd this (bf_as this)
    · have := h.2.2.1 j i (by omega) hi
      rw [e] at this
      exact absurd this (bf_as this)
/-- taking the first of a set again and again -/
theorem e7_queued {h : zH} (hI : zInv B h) {c : Nat} {a : Nat → Nat} (hE : Enu (sMk (vw h.1 (B + 1)) 1) (fun k => vw h.1 (B + 1) (25 + k) 2) (nCl (vw h.1 (B + 1))) c a) {q : Nat} (hq : q < c) : ∀ (r i f m : Nat), i + r = q → r < f → m < 65536 → (∀ k, k < nCl (vw h.1 (B + 1)) → (m.testBit k = true ↔ ∃ j, i ≤ j ∧ j < c ∧ a j = k)) →
    q_X7_queuedAt_L25 h B (q : Int) (fun x6 _ => zbp (q_X4_firstInOrder h (h.2 B 0) x6) (fun x8 => some x8)) f (m : Int) (i : Int) = some (a q : Int) := by
  have hcv := hI.cv
  have hn := hcv.2.nC
  intro r
  induction r with
  | zero =>
    intro i f m q1 q2 hm hb
    obtain ⟨f', rfl⟩ : ∃ f', f = f' + 1 := ⟨f - 1, by omega⟩
    have e : i = q := by omega
    subst e
    obtain ⟨b, k1, k2⟩ := e4_first hcv hm
    rw [q_X7_queuedAt_L25, if_pos (by omega), hI.r0, k1, zbp_some, hE.set hq hb k2]
  | succ r ih =>
    intro i f m q1 q2 hm hb
    obtain ⟨f', rfl⟩ : ∃ f', f = f' + 1 := ⟨f - 1, by omega⟩
    obtain ⟨b, k1, k2⟩ := e4_first hcv hm
    have hai := (hE.1 i (by omega)).1
    obtain ⟨m', p1, p2, p3⟩ := z_rem hm (k := a i) (by omega)
    have k3 : q_X4_firstInOrder h (h.2 B 0) (m : Int) = some b := by rw [hI.r0]; exact k1
    have hc16 : c ≤ nCl (vw h.1 (B + 1)) := by rw [hE.2.2.2]; exact nct_le _
    have hi6 : i < 1000000 := by omega
    have hiq : ¬ (q : Int) ≤ (i : Int) := by omega
    rw [q_X7_queuedAt_L25, if_neg hiq, k3, zbp_some, hE.set (by omega) hb k2]
    simp only [zlet_b]
    rw [p1, zw_s hi6]
    refine ih (i + 1) f' m' (by omega) (by omega) (by omega) (fun k hk => ?_)
    rw [p3, Bool.and_eq_true, decide_eq_true_eq, hb k hk]
    constructor
    · rintro ⟨⟨j, z1, z2, z3⟩, z4⟩
      refine ⟨j, ?_, z2, z3⟩
      have : j ≠ i := fun z => z4 (by rw [← z3, z])
      omega
    · rintro ⟨j, z1, z2, z3⟩
      refine ⟨⟨j, by omega, z2, z3⟩, fun z => ?_⟩
      have := hE.inj (i := j) (j := i) z2 (by omega) (z3.trans z)
      omega
theorem nct_bits {P : Nat → Bool} {n : Nat} : ∀ r, nct (fun k => (nset P n).testBit k) (n + r) = nct P n := by
  intro r
  induction r with
  | zero => exact nct_congr n (fun k hk => by rw [nset_bit, decide_eq_true hk, Bool.true_and])
  | succ r ih =>
    have e : n + (r + 1) = n + r + 1 := rfl
    have hlt : ¬ n + r < n := by omega
    rw [e, nct_s, ih, if_neg]
    rw [nset_bit]
    simp [hlt]
theorem sBC_nset {P : Nat → Bool} {n : Nat} (hn : n ≤ 16) : sBC ((nset P n : Nat) : Int) = (nct P n : Int) := by
  rw [sBC_set (nset_16 hn)]
  have := nct_bits (P := P) (n := n) (16 - n)
  rw [show n + (16 - n) = 16 by omega] at this
  rw [this]
end OPS
section OPS
variable {B : Nat}
/-- where the next burst of a carrier begins -/
def sNxt (v : Nat → Nat → Int) (c t : Int) : Int := zit (fun (m : Int) l => if v (25 + l) 5 = 1 ∧ v (25 + l) 6 = c ∧ t ≤ v (25 + l) 7 then zmin m (v (25 + l) 7) else m) (nCl v) (v 1 0)
def sRoom (v : Nat → Nat → Int) (c t : Int) : Int := sNxt v c t - v 1 1 - t
theorem nxt_s {v : Nat → Nat → Int} (w : WF v) (c t : Int) : ∀ (m : Int) i, i < nCl v → (0 ≤ m ∧ m ≤ 5000) → 0 ≤ (if v (25 + i) 5 = 1 ∧ v (25 + i) 6 = c ∧ t ≤ v (25 + i) 7 then zmin m (v (25 + i) 7) else m) ∧ (if v (25 + i) 5 = 1 ∧ v (25 + i) 6 = c ∧ t ≤ v (25 + i) 7 then zmin m (v (25 + i) 7) else m) ≤ 5000 := by
  intro m i hi hm
  have hn := w.nC
  have hset := w.set
  split
  · next q =>
    have ha := w.act (k := i) (by omega) q.1
    unfold zmin
    split <;> omega
  · exact hm
theorem sNxt_b {v : Nat → Nat → Int} (w : WF v) (c t : Int) : 0 ≤ sNxt v c t ∧ sNxt v c t ≤ 5000 := by
  have hset := w.set
  refine zit_inv (fun _ (m : Int) => 0 ≤ m ∧ m ≤ 5000) (by omega) (nCl v) (fun i hi x hx => nxt_s w c t x i hi hx)
def sLong (v : Nat → Nat → Int) (c : Int) : Int := zit (fun (m : Int) k => if v (25 + k) 5 = 1 ∧ v (25 + k) 6 = c then zmax m (sRoom v c (v (25 + k) 7 + v (25 + k) 3 + v 1 1)) else m) (nCl v) (zmax 0 (sRoom v c (v 1 2 + v 1 1)))
end OPS
