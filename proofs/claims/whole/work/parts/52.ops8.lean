/-! How the timing errors go on. -/
def upi (e : Nat → Int) (m : Nat) (x : Int) : Nat → Int := fun j => if j = m then x else e j
/-- 64 places of a row -/
def zRng (h : zH) (A o : Nat) (e : Nat → Int) : zH := (fun q j => if q = A ∧ o ≤ j ∧ j < o + 64 then e (j - o) else h.1 q j, h.2)
theorem zRng_at {h : zH} {A o : Nat} {e : Nat → Int} {j : Nat} (hj : j < 64) : (zRng h A o e).1 A (o + j) = e j := by
  show (if A = A ∧ o ≤ o + j ∧ o + j < o + 64 then e (o + j - o) else h.1 A (o + j)) = _
  rw [if_pos ⟨rfl, by omega, by omega⟩]
  congr 1
  omega
theorem zRng_ne {h : zH} {A o q : Nat} {e : Nat → Int} {j : Nat} (hj : q ≠ A ∨ j < o ∨ o + 64 ≤ j) : (zRng h A o e).1 q j = h.1 q j := by
  show (if q = A ∧ o ≤ j ∧ j < o + 64 then e (j - o) else h.1 q j) = _
  rw [if_neg]
  omega
theorem zRng_put {h : zH} {A o : Nat} {e : Nat → Int} {m : Nat} {x : Int} (hm : m < 64) : zput (zRng h A o e) A (o + m) x = zRng h A o (upi e m x) := by
  unfold zRng upi zput
  refine Prod.ext ?_ rfl
  funext q j
  show (if q = A ∧ j = o + m then x else if q = A ∧ o ≤ j ∧ j < o + 64 then e (j - o) else h.1 q j) = if q = A ∧ o ≤ j ∧ j < o + 64 then (if j - o = m then x else e (j - o)) else h.1 q j
  by_cases hq : q = A
  · by_cases h1 : j = o + m
    · rw [if_pos ⟨hq, h1⟩, if_pos ⟨hq, by omega, by omega⟩, if_pos (by omega)]
    · rw [if_neg (fun z => h1 z.2)]
      by_cases h2 : o ≤ j ∧ j < o + 64
      · rw [if_pos ⟨hq, h2⟩, if_pos ⟨hq, h2⟩, if_neg (by omega)]
      · rw [if_neg (fun z => h2 z.2), if_neg (fun z => h2 z.2)]
  · rw [if_neg (fun z => hq z.1), if_neg (fun z => hq z.1), if_neg (fun z => hq z.1)]
theorem zRng_id {h : zH} {A o : Nat} {e : Nat → Int} (he : ∀ j, j < 64 → e j = h.1 A (o + j)) : zRng h A o e = h := by
  refine Prod.ext ?_ rfl
  funext q j
  show (if q = A ∧ o ≤ j ∧ j < o + 64 then e (j - o) else h.1 q j) = h.1 q j
  by_cases hq : q = A ∧ o ≤ j ∧ j < o + 64
  · have ej : o + (j - o) = j := by omega
    rw [if_pos hq, he _ (by omega), hq.1, ej]
  · rw [if_neg hq]
/-- the error of the frame t -/
def sStep (e : Nat → Int) (d g trip t : Int) : Int := zmax (-100000) (zmin 100000 (e ((t - 1) % 64).toNat + d - (if 0 ≤ t - 1 - trip then (e ((t - 1 - trip) % 64).toNat * g).tdiv 100 else 0)))
def eB (e : Nat → Int) : Prop := ∀ j, j < 64 → -100000 ≤ e j ∧ e j ≤ 100000
theorem sStep_b {e : Nat → Int} {d g trip t : Int} : -100000 ≤ sStep e d g trip t ∧ sStep e d g trip t ≤ 100000 := by
  unfold sStep
  generalize _ + d - _ = x
  unfold zmax zmin
  repeat' split
  all_goals omega
theorem upi_b {e : Nat → Int} {m : Nat} {x : Int} (he : eB e) (hx : -100000 ≤ x ∧ x ≤ 100000) : eB (upi e m x) := by
  intro j hj
  unfold upi
  split
  · exact hx
  · exact he j hj
theorem gainB {x g : Int} (hx : -100000 ≤ x ∧ x ≤ 100000) (hg : 1 ≤ g ∧ g ≤ 100) : zw (x * g) = x * g ∧ zw ((x * g).tdiv 100) = (x * g).tdiv 100 ∧ -100000 ≤ (x * g).tdiv 100 ∧ (x * g).tdiv 100 ≤ 100000 := by
  have h1 : x * g ≤ 10000000 := by
    have a : x * g ≤ 100000 * g := Int.mul_le_mul_of_nonneg_right hx.2 (by omega)
    omega
  have h2 : -10000000 ≤ x * g := by
    have a : -100000 * g ≤ x * g := Int.mul_le_mul_of_nonneg_right hx.1 (by omega)
    omega
  generalize x * g = y at h1 h2
  have h3 : -100000 ≤ y.tdiv 100 ∧ y.tdiv 100 ≤ 100000 := by
    by_cases hy : 0 ≤ y
    · rw [Int.tdiv_eq_ediv_of_nonneg hy]
      omega
    · have e := Int.neg_tdiv (a := y) (b := 100)
      rw [Int.tdiv_eq_ediv_of_nonneg (by omega)] at e
      omega
  exact ⟨zw_id ⟨by omega, by omega⟩, zw_id ⟨by omega, by omega⟩, h3⟩
theorem e5_keep {h : zH} {P : Nat} {t trip g d : Int} {e : Nat → Int} (ht : 1 ≤ t ∧ t ≤ 100000) (hp : 0 ≤ trip ∧ trip ≤ 50) (hg : 1 ≤ g ∧ g ≤ 100) (hd : h.1 P 2 = d) (hdb : -50 ≤ d ∧ d ≤ 50)
    (he : ∀ j, j < 64 → h.1 (h.2 P 7) j = e j) (hb : eB e) : q_X5_keepTime h P t trip g = some ((), zput h (h.2 P 7) (t % 64).toNat (sStep e d g trip t)) := by
  have hm1 : ((t - 1) % 64).toNat < 64 := by omega
  have b1 := hb _ hm1
  have gt : ∀ (γ : Type) (E : Option γ), zgi 64 (t % 64) E = E := fun _ _ => zgi_pos (by omega) (by omega)
  have r1 : q_X5_errorIn h P (t - 1) = some (e ((t - 1) % 64).toNat) := by
    unfold q_X5_errorIn
    rw [zand_63 (by omega) (by omega), zgi_pos (by omega) (by omega), he _ hm1]
  have a1 : zand t 63 = t % 64 := zand_63 (by omega) (by omega)
  have z1 : zw (t - 1) = t - 1 := by clear a1; exact zw_id ⟨by omega, by omega⟩
  have z2 : zw (t - 1 - trip) = t - 1 - trip := by clear a1 z1; exact zw_id ⟨by omega, by omega⟩
  unfold q_X5_keepTime
  simp only [zlet_b]
  rw [z1, z2, r1, a1, hd]
  clear z1 z2 a1
  unfold sStep
  by_cases hq : 0 ≤ t - 1 - trip
  · have hm2 : ((t - 1 - trip) % 64).toNat < 64 := by omega
    have b2 := hb _ hm2
    have r2 : q_X5_errorIn h P (t - 1 - trip) = some (e ((t - 1 - trip) % 64).toNat) := by
      unfold q_X5_errorIn
      rw [zand_63 (by omega) (by omega), zgi_pos (by omega) (by omega), he _ hm2]
    obtain ⟨g1, g2, g3, g4⟩ := gainB b2 hg
    rw [if_pos hq, if_pos hq, r2, zbp_some, g1, g2, zgz_pos (by decide)]
    clear g1 g2
    generalize ((e ((t - 1 - trip) % 64).toNat) * g).tdiv 100 = y at g3 g4
    generalize e ((t - 1) % 64).toNat = x at b1
    have w1 : zw (x + d) = x + d := zw_id ⟨by omega, by omega⟩
    have w2 : zw (x + d - y) = x + d - y := by clear w1; exact zw_id ⟨by omega, by omega⟩
    rw [zbp_some, w1, w2, gt]
  · rw [if_neg hq, if_neg hq]
    generalize e ((t - 1) % 64).toNat = x at b1
    have w1 : zw (x + d) = x + d := zw_id ⟨by omega, by omega⟩
    have w2 : zw (x + d - 0) = x + d - 0 := by clear w1; exact zw_id ⟨by omega, by omega⟩
    rw [zbp_some, w1, w2, gt]
def sTripD (d n : Int) : Int := (2 * d + n - 1).tdiv n
theorem e8_place {h : zH} {M s : Nat} {t : Int} (hs : s < 6) (ht : 0 ≤ t ∧ t ≤ 1000000) : q_X8_errorPlaceOf h M (s : Int) t = some ((20 + 64 * s + (t % 64).toNat : Nat) : Int) := by
  have hj : (t % 64).toNat < 64 := by omega
  have et : t.tmod 64 = ((t % 64).toNat : Int) := by
    rw [Int.tmod_eq_emod_of_nonneg ht.1]
    omega
  have w1 : zw (64 * (s : Int)) = 64 * (s : Int) := zw_id ⟨by omega, by omega⟩
  have w2 : zw (20 + 64 * (s : Int)) = 20 + 64 * (s : Int) := by clear w1; exact zw_id ⟨by omega, by omega⟩
  have w3 : zw (20 + 64 * (s : Int) + ((t % 64).toNat : Int)) = 20 + 64 * (s : Int) + ((t % 64).toNat : Int) := by clear w1 w2; exact zw_id ⟨by omega, by omega⟩
  unfold q_X8_errorPlaceOf
  rw [zgz_pos (by decide), et, w1, w2, w3]
  congr 1
theorem zgpos {n m : Nat} (hm : m < n) {γ : Type} {E : Option γ} : zgi n (m : Int) E = E := zgi_pos (by omega) (by omega)
theorem e8_strays {h : zH} {M s : Nat} {t n g d q : Int} {e : Nat → Int} (hl : mly h.2 M) (hs : s < 6) (ht : 1 ≤ t ∧ t ≤ 100000) (hn : 200 ≤ n ∧ n ≤ 5000) (hg : 1 ≤ g ∧ g ≤ 100) (hdb : -50 ≤ d ∧ d ≤ 50) (hq : 0 ≤ q ∧ q ≤ 5000)
    (e1 : h.1 (M + 4) 1 = n) (e7 : h.1 (M + 4) 7 = g) (e6 : h.1 (M + 2) (6 + s) = q) (e12 : h.1 (M + 2) (12 + s) = d)
    (he : ∀ j, j < 64 → h.1 (M + 4) (20 + 64 * s + j) = e j) (hb : eB e) : q_X8_strays h M (s : Int) t = some ((), zput h (M + 4) (20 + 64 * s + (t % 64).toNat) (sStep e d g (sTripD q n) t)) := by
  have hm0 : (t % 64).toNat < 64 := by omega
  have hm1 : ((t - 1) % 64).toNat < 64 := by omega
  have b1 := hb _ hm1
  have q1 : 20 + 64 * s + ((t - 1) % 64).toNat < 597 := by omega
  have q0 : 20 + 64 * s + (t % 64).toNat < 597 := by omega
  have k6 : 6 + s < 65 := by omega
  have k12 : 12 + s < 65 := by omega
  have ez : ¬ n = 0 := by omega
  have p0 := e8_place (h := h) (M := M) (t := t) hs (by omega)
  have p1 := e8_place (h := h) (M := M) (t := t - 1) hs (by omega)
  obtain ⟨t1, t2, t3, t4⟩ := tripN hq hn
  have etrip : q_X8_tripOf h M (s : Int) = some (sTripD q n) := by
    unfold q_X8_tripOf
    simp only [zlet_b]
    have w6 : zw (6 + (s : Int)) = ((6 + s : Nat) : Int) := zw_c (c := 6) (by clear t1 t4; omega)
    rw [w6, zgpos k6, Int.toNat_natCast, hl.told, hl.now, e1, e6, zgz_pos ez, t1, t4]
    rfl
  have hT : 0 ≤ sTripD q n ∧ sTripD q n ≤ 50 := ⟨t2, t3⟩
  clear t1 t2 t3 t4
  unfold q_X8_strays
  rw [etrip, zbp_some]
  generalize sTripD q n = trip at hT
  have z1 : zw (t - 1) = t - 1 := zw_id ⟨by omega, by omega⟩
  have z2 : zw (t - 1 - trip) = t - 1 - trip := by clear z1; exact zw_id ⟨by omega, by omega⟩
  have z3 : zw (12 + (s : Int)) = ((12 + s : Nat) : Int) := by clear z1 z2; exact zw_c (c := 12) (by omega)
  simp only [zlet_b]
  rw [z1, z2, p1, p0, z3]
  clear z1 z2 z3
  simp only [zbp_some]
  unfold sStep
  by_cases hc : 0 ≤ t - 1 - trip
  · have hm2 : ((t - 1 - trip) % 64).toNat < 64 := by omega
    have q2 : 20 + 64 * s + ((t - 1 - trip) % 64).toNat < 597 := by omega
    have b2 := hb _ hm2
    have p2 := e8_place (h := h) (M := M) (t := t - 1 - trip) hs (by omega)
    obtain ⟨g1, g2, g3, g4⟩ := gainB b2 hg
    rw [if_pos hc, if_pos hc, p2, zbp_some, zgpos q2, zgpos q1, zgpos k12, zgpos q0, Int.toNat_natCast, Int.toNat_natCast, Int.toNat_natCast, Int.toNat_natCast, hl.now, hl.told, he _ hm2, he _ hm1, e7, e12, g1, g2, zgz_pos (by decide)]
    clear g1 g2
    generalize ((e ((t - 1 - trip) % 64).toNat) * g).tdiv 100 = y at g3 g4
    generalize e ((t - 1) % 64).toNat = x at b1
    have w1 : zw (x + d) = x + d := zw_id ⟨by omega, by omega⟩
    have w2 : zw (x + d - y) = x + d - y := by clear w1; exact zw_id ⟨by omega, by omega⟩
    rw [w1, w2]
  · rw [if_neg hc, if_neg hc, zgpos q1, zgpos k12, zgpos q0, Int.toNat_natCast, Int.toNat_natCast, Int.toNat_natCast, hl.now, hl.told, he _ hm1, e12]
    generalize e ((t - 1) % 64).toNat = x at b1
    have w1 : zw (x + d) = x + d := zw_id ⟨by omega, by omega⟩
    have w2 : zw (x + d - 0) = x + d - 0 := by clear w1; exact zw_id ⟨by omega, by omega⟩
    rw [w1, w2]
theorem zcpy_s {h : zH} {a b n : Nat} (hab : a ≠ b) : zput (zcpy h a b n) b n ((zcpy h a b n).1 a n) = zcpy h a b (n + 1) := by
  refine Prod.ext ?_ rfl
  funext q j
  show (if q = b ∧ j = n then (if a = b ∧ n < n then h.1 a n else h.1 a n) else if q = b ∧ j < n then h.1 a j else h.1 q j) = if q = b ∧ j < n + 1 then h.1 a j else h.1 q j
  rw [if_neg (show ¬ (a = b ∧ n < n) from fun z => hab z.1)]
  by_cases hq : q = b
  · by_cases h1 : j = n
    · rw [if_pos ⟨hq, h1⟩, if_pos ⟨hq, by omega⟩, h1]
    · rw [if_neg (fun z => h1 z.2)]
      by_cases h2 : j < n
      · rw [if_pos ⟨hq, h2⟩, if_pos ⟨hq, by omega⟩]
      · rw [if_neg (fun z => h2 z.2), if_neg (fun z => h2 (by omega))]
  · rw [if_neg (fun z => hq z.1), if_neg (fun z => hq z.1), if_neg (fun z => hq z.1)]
theorem e8_keeps {h : zH} {M : Nat} (hl : mly h.2 M) : q_X8_keepsOld h M = some ((), zcpy h (M + 4) (M + 5) 597) := by
  have e6 : h.2 M 6 = M + 5 := hl 6
  have e0 : zcpy h (M + 4) (M + 5) 0 = h := by
    refine Prod.ext ?_ rfl
    funext q j
    show (if q = M + 5 ∧ j < 0 then _ else _) = _
    rw [if_neg (by omega)]
  have ez : ∀ i, zit (fun (_ : zH) i => zcpy h (M + 4) (M + 5) (i + 1)) i h = zcpy h (M + 4) (M + 5) i := by
    intro i
    cases i with
    | zero => exact e0.symm
    | succ i => rfl
  have key := zloop0 (L := fun f (g : zH) i => q_X8_keepsOld_L2 M (fun _ h4 => some ((), h4)) f i g) (N := 597) (fun (_ : zH) i => zcpy h (M + 4) (M + 5) (i + 1)) (s0 := h) (kf := fun g => some ((), g)) (by omega) (fun f i hi => ?_) (fun f => ?_)
  · rw [ez] at key
    exact key
  · rw [ez]
    show q_X8_keepsOld_L2 M _ (f + 1) (i : Int) _ = _
    rw [q_X8_keepsOld_L2]
    simp only [zlet_b]
    have r5 : (zcpy h (M + 4) (M + 5) i).2 M 5 = M + 4 := hl.now
    have r6 : (zcpy h (M + 4) (M + 5) i).2 M 6 = M + 5 := e6
    rw [if_neg (by omega), zgpos hi, zgpos hi, Int.toNat_natCast, r5, r6, zcpy_s (by omega), zw_s (by omega)]
    rfl
  · rw [ez]
    show q_X8_keepsOld_L2 M _ (f + 1) ((597 : Nat) : Int) _ = _
    rw [q_X8_keepsOld_L2, if_pos (by omega)]
theorem e8_brings {h : zH} {M : Nat} (hl : mly h.2 M) : q_X8_bringsOld h M = some ((), zcpy h (M + 5) (M + 4) 597) := by
  have e6 : h.2 M 6 = M + 5 := hl 6
  have e0 : zcpy h (M + 5) (M + 4) 0 = h := by
    refine Prod.ext ?_ rfl
    funext q j
    show (if q = M + 4 ∧ j < 0 then _ else _) = _
    rw [if_neg (by omega)]
  have ez : ∀ i, zit (fun (_ : zH) i => zcpy h (M + 5) (M + 4) (i + 1)) i h = zcpy h (M + 5) (M + 4) i := by
    intro i
    cases i with
    | zero => exact e0.symm
    | succ i => rfl
  have key := zloop0 (L := fun f (g : zH) i => q_X8_bringsOld_L2 M (fun _ h4 => some ((), h4)) f i g) (N := 597) (fun (_ : zH) i => zcpy h (M + 5) (M + 4) (i + 1)) (s0 := h) (kf := fun g => some ((), g)) (by omega) (fun f i hi => ?_) (fun f => ?_)
  · rw [ez] at key
    exact key
  · rw [ez]
    show q_X8_bringsOld_L2 M _ (f + 1) (i : Int) _ = _
    rw [q_X8_bringsOld_L2]
    simp only [zlet_b]
    have r5 : (zcpy h (M + 5) (M + 4) i).2 M 5 = M + 4 := hl.now
    have r6 : (zcpy h (M + 5) (M + 4) i).2 M 6 = M + 5 := e6
    rw [if_neg (by omega), zgpos hi, zgpos hi, Int.toNat_natCast, r5, r6, zcpy_s (by omega), zw_s (by omega)]
    rfl
  · rw [ez]
    show q_X8_bringsOld_L2 M _ (f + 1) ((597 : Nat) : Int) _ = _
    rw [q_X8_bringsOld_L2, if_pos (by omega)]
