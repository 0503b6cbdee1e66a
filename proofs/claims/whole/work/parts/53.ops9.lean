/-! The timing error to come, and the frames in time. -/
theorem e5_copy {h : zH} {P A : Nat} (h1 : A ≠ P) (h2 : h.2 P 7 ≠ P) (h3 : h.2 A 7 ≠ P) : ∃ hc, q_X5_copyFrom h P A = some ((), hc) ∧ hc.2 = h.2 ∧ (∀ q j, q ≠ P → q ≠ h.2 P 7 → hc.1 q j = h.1 q j) ∧ (∀ j, j < 7 → hc.1 P j = h.1 A j) ∧ ∀ j, j < 64 → hc.1 (h.2 P 7) j = h.1 (h.2 A 7) j := by
  unfold q_X5_copyFrom
  simp only [zlet_b]
  refine ⟨_, rfl, rfl, fun q j q1 q2 => ?_, fun j hj => ?_, fun j hj => ?_⟩
  · simp only [zcpy, zput_1, zput_2]
    simp [q1, q2]
  · simp only [zcpy, zput_1, zput_2]
    rw [if_neg (fun z => h2 z.1.symm)]
    have hA : ∀ i : Nat, ¬ (A = P ∧ i = i) := fun i z => h1 z.1
    obtain rfl | rfl | rfl | rfl | rfl | rfl | rfl : j = 0 ∨ j = 1 ∨ j = 2 ∨ j = 3 ∨ j = 4 ∨ j = 5 ∨ j = 6 := by omega
    all_goals simp [h1]
  · simp only [zcpy, zput_1, zput_2]
    simp [hj, h3]
theorem zcpy_at {h : zH} {a b n j : Nat} (hj : j < n) : (zcpy h a b n).1 b j = h.1 a j := by
  show (if b = b ∧ j < n then h.1 a j else h.1 b j) = _
  rw [if_pos ⟨rfl, hj⟩]
theorem zcpy_ne {h : zH} {a b n q j : Nat} (hj : q ≠ b ∨ n ≤ j) : (zcpy h a b n).1 q j = h.1 q j := by
  show (if q = b ∧ j < n then h.1 a j else h.1 q j) = _
  rw [if_neg]
  omega
section OPS
variable {B : Nat}
theorem zS_cur {h h' : zH} (hs : zSame B h h') : vw h'.1 (B + 1) = vw h.1 (B + 1) := hs.vw (fun _ ho _ => zScrt_cur ho)
theorem e4_tripP {h : zH} {A P : Nat} {d : Int} (hc : CV h A) (hp : h.1 P 1 = d) (hd : 0 ≤ d ∧ d ≤ 5000) : q_X4_tripOf h A P = some (sTripD d (vw h.1 A 1 0)) := by
  have hw := hc.2.set.1
  have h0 : ¬ vw h.1 A 1 0 ≤ 0 := by omega
  have h00 : ¬ vw h.1 A 1 0 = 0 := by omega
  obtain ⟨t1, t2, t3, t4⟩ := tripN hd hw
  unfold q_X4_tripOf
  simp only [zlet_b]
  rw [a_set hc, hp, if_neg h0, zgz_pos h00, t1, t4]
  rfl
theorem sTripD_b {d n : Int} (hd : 0 ≤ d ∧ d ≤ 5000) (hn : 200 ≤ n ∧ n ≤ 5000) : 0 ≤ sTripD d n ∧ sTripD d n ≤ 50 := by
  obtain ⟨t1, t2, t3, t4⟩ := tripN hd hn
  exact ⟨t2, t3⟩
/-- the errors of a station when n more frames have passed -/
def sRun (v : Nat → Nat → Int) (s n : Nat) : Nat → Int := zit (fun (e : Nat → Int) i => upi e ((v 0 0 + 1 + (i : Int)) % 64).toNat (sStep e (v (5 + 2 * s) 2) (v 1 6) (sTripD (v (5 + 2 * s) 1) (v 1 0)) (v 0 0 + 1 + (i : Int)))) n (v (6 + 2 * s))
def sErr (v : Nat → Nat → Int) (s n : Nat) : Int := sRun v s n ((v 0 0 + (n : Int)) % 64).toNat
theorem sRun_b {v : Nat → Nat → Int} (w : WF v) {s : Nat} (hs : (s : Int) < v 0 3) (n : Nat) : eB (sRun v s n) := by
  refine zit_inv (fun _ (e : Nat → Int) => eB e) (w.2.2.2.2.2.2.1 s hs).2.2.2.2.2 n (fun i _ x hx => upi_b hx sStep_b)
/-- the probe, after a station is copied into it -/
def Prb (B : Nat) (h hc : zH) (s : Nat) : Prop := zSame B h hc ∧ hc.1 (B + 83) 1 = vw h.1 (B + 1) (5 + 2 * s) 1 ∧ hc.1 (B + 83) 2 = vw h.1 (B + 1) (5 + 2 * s) 2 ∧ ∀ j, j < 64 → hc.1 (B + 84) j = vw h.1 (B + 1) (6 + 2 * s) j
theorem zInv.r2 {h : zH} (hI : zInv B h) : h.2 B 2 = B + 83 := hI.1 0 (by decide) (by decide) 2
theorem zInv.rp {h : zH} (hI : zInv B h) : h.2 (B + 83) 7 = B + 84 := hI.1 83 (by decide) (by decide) 7
theorem e7_probe {h : zH} (hI : zInv B h) {s : Nat} (hs : (s : Int) < vw h.1 (B + 1) 0 3) : ∃ hc, q_X5_copyFrom h (h.2 B 2) (B + 1 + (5 + 2 * s)) = some ((), hc) ∧ Prb B h hc s := by
  have hns := hI.wf.nS
  have hs6 : s < 6 := by omega
  have her : h.2 (B + 1 + (5 + 2 * s)) 7 = B + 1 + (6 + 2 * s) := hI.cly.er hs6
  rw [hI.r2]
  obtain ⟨hc, k1, k2, k3, k4, k5⟩ := e5_copy (h := h) (P := B + 83) (A := B + 1 + (5 + 2 * s)) (by omega) (by rw [hI.rp]; omega) (by rw [her]; omega)
  rw [hI.rp] at k3 k5
  refine ⟨hc, k1, ⟨k2, fun a j hq => ?_⟩, ?_, ?_, fun j hj => ?_⟩
  · refine k3 a j (fun z => hq ?_) (fun z => hq ?_)
    · unfold zScrt; omega
    · unfold zScrt; omega
  · rw [k4 1 (by decide), a_s hs6]
  · rw [k4 2 (by decide), a_s hs6]
  · rw [k5 j hj, her, a_e hs6]
theorem zSame.rng {h hc : zH} (hs : zSame B h hc) {e : Nat → Int} : zSame B h (zRng hc (B + 84) 0 e) := by
  refine ⟨hs.1, fun a j hq => ?_⟩
  have ha : a ≠ B + 84 := fun z => hq (by unfold zScrt; omega)
  rw [zRng_ne (Or.inl ha)]
  exact hs.2 a j hq
/-- one frame of the probe -/
theorem e7_pstep {h hc : zH} (hI : zInv B h) {s : Nat} (hs : (s : Int) < vw h.1 (B + 1) 0 3) (hp : Prb B h hc s) {e : Nat → Int} (he : eB e) {t : Int} (ht : 1 ≤ t ∧ t ≤ 100000) :
    q_X4_tripOf (zRng hc (B + 84) 0 e) (B + 1) (B + 83) = some (sTripD (vw h.1 (B + 1) (5 + 2 * s) 1) (vw h.1 (B + 1) 1 0))
    ∧ q_X5_keepTime (zRng hc (B + 84) 0 e) (B + 83) t (sTripD (vw h.1 (B + 1) (5 + 2 * s) 1) (vw h.1 (B + 1) 1 0)) (vw h.1 (B + 1) 1 6) = some ((), zRng hc (B + 84) 0 (upi e (t % 64).toNat (sStep e (vw h.1 (B + 1) (5 + 2 * s) 2) (vw h.1 (B + 1) 1 6) (sTripD (vw h.1 (B + 1) (5 + 2 * s) 1) (vw h.1 (B + 1) 1 0)) t))) := by
  have hS : zSame B h (zRng hc (B + 84) 0 e) := hp.1.rng
  have hI' := hI.same hS
  have hW := (hI.wf.2.2.2.2.2.2.1 s hs)
  have hset := hI.wf.set
  have p1 : (zRng hc (B + 84) 0 e).1 (B + 83) 1 = vw h.1 (B + 1) (5 + 2 * s) 1 := by rw [zRng_ne (Or.inl (by omega))]; exact hp.2.1
  have p2 : (zRng hc (B + 84) 0 e).1 (B + 83) 2 = vw h.1 (B + 1) (5 + 2 * s) 2 := by rw [zRng_ne (Or.inl (by omega))]; exact hp.2.2.1
  have hr : (zRng hc (B + 84) 0 e).2 (B + 83) 7 = B + 84 := hI'.rp
  constructor
  · have := e4_tripP hI'.cv p1 hW.1
    rw [zS_cur hS] at this
    exact this
  · have k := e5_keep (h := zRng hc (B + 84) 0 e) (P := B + 83) (t := t) (e := e) ht (sTripD_b hW.1 hset.1) hset.2.2.2.2.2.2 p2 hW.2.1 (fun j hj => by
      rw [hr]
      have := zRng_at (h := hc) (A := B + 84) (o := 0) (e := e) hj
      rw [Nat.zero_add] at this
      exact this) he
    rw [k, hr]
    have z := zRng_put (h := hc) (A := B + 84) (o := 0) (e := e) (m := (t % 64).toNat) (x := sStep e (vw h.1 (B + 1) (5 + 2 * s) 2) (vw h.1 (B + 1) 1 6) (sTripD (vw h.1 (B + 1) (5 + 2 * s) 1) (vw h.1 (B + 1) 1 0)) t) (by omega)
    rw [Nat.zero_add] at z
    rw [z]
theorem e5_errP {hc : zH} {P : Nat} {e : Nat → Int} (hr : (zRng hc (P + 1) 0 e).2 P 7 = P + 1) {t : Int} (ht : 0 ≤ t ∧ t ≤ 100000) : q_X5_errorIn (zRng hc (P + 1) 0 e) P t = some (e (t % 64).toNat) := by
  have hj : (t % 64).toNat < 64 := by omega
  unfold q_X5_errorIn
  rw [zand_63 (by omega) (by omega), zgi_pos (by omega) (by omega), hr]
  have := zRng_at (h := hc) (A := P + 1) (o := 0) (e := e) hj
  rw [Nat.zero_add] at this
  rw [this]
/-- the reference's look ahead -/
theorem e8_errAfter {h : zH} {v : Nat → Nat → Int} (hm : MV h (B + 541) v) {s n : Nat} (hs : (s : Int) < v 0 3) (hn : n ≤ 200) (h0 : h.1 (B + 541) 0 = 0) : ∃ h', q_X8_errorAfter h (B + 541) (s : Int) (n : Int) = some (sErr v s n, h') ∧ zSame B h h' ∧ h'.1 (B + 541) 0 = 0 ∧ h'.1 (B + 552) 0 = h.1 (B + 552) 0 := by
  have w := hm.2.1
  have hns := w.nS
  have hs6 : s < 6 := by omega
  have hset := w.set
  have hW := w.2.2.2.2.2.2.1 s hs
  have hnow := w.1
  have ms := hm.2.2.2.2.2.2.2.2.1 s hs
  have hsta : 0 ≤ (s : Int) ∧ (s : Int) < v 0 3 := ⟨by omega, hs⟩
  have e1 : zput h (B + 541) 0 0 = h := by
    refine Prod.ext ?_ rfl
    funext q j
    rw [zput_1]
    split
    · next z => rw [z.1, z.2, h0]
    · rfl
  unfold q_X8_errorAfter
  rw [m_station hm, if_pos hsta, e1, if_neg one0, if_neg (by omega), if_pos (by omega), e8_keeps hm.1, zbd_some]
  have hk1 : ∀ j, (zcpy h (B + 541 + 4) (B + 541 + 5) 597).1 (B + 541 + 4) j = h.1 (B + 541 + 4) j := fun j => zcpy_ne (Or.inl (by omega))
  have hk2 : ∀ j, (zcpy h (B + 541 + 4) (B + 541 + 5) 597).1 (B + 541 + 2) j = h.1 (B + 541 + 2) j := fun j => zcpy_ne (Or.inl (by omega))
  have hk3 : ∀ j, j < 597 → (zcpy h (B + 541 + 4) (B + 541 + 5) 597).1 (B + 541 + 5) j = h.1 (B + 541 + 4) j := fun j hj => zcpy_at hj
  have hk4 : ∀ q j, q ≠ B + 541 + 5 → (zcpy h (B + 541 + 4) (B + 541 + 5) 597).1 q j = h.1 q j := fun q j hq => zcpy_ne (Or.inl hq)
  have hkr : (zcpy h (B + 541 + 4) (B + 541 + 5) 597).2 = h.2 := rfl
  generalize zcpy h (B + 541 + 4) (B + 541 + 5) 597 = hk at hk1 hk2 hk3 hk4 hkr
  have hring : zRng hk (B + 541 + 4) (20 + 64 * s) (v (6 + 2 * s)) = hk := zRng_id (fun j hj => by rw [hk1]; exact (ms.2.2.2.2.2.2.2 j hj).symm)
  have hl : ∀ e, mly (zRng hk (B + 541 + 4) (20 + 64 * s) e).2 (B + 541) := fun e => by
    show mly hk.2 (B + 541)
    rw [hkr]
    exact hm.1
  have hlow : ∀ e j, j < 20 → (zRng hk (B + 541 + 4) (20 + 64 * s) e).1 (B + 541 + 4) j = h.1 (B + 541 + 4) j := fun e j hj => by rw [zRng_ne (Or.inr (Or.inl (by omega))), hk1]
  have hnowe : ∀ e, (zRng hk (B + 541 + 4) (20 + 64 * s) e).1 ((zRng hk (B + 541 + 4) (20 + 64 * s) e).2 (B + 541) 5) 0 = v 0 0 := fun e => by
    rw [(hl e).now, hlow e 0 (by decide)]
    exact hm.2.2.1
  have hb := fun i => sRun_b w hs i
  have key := zloop0 (L := fun f (e : Nat → Int) i => q_X8_errorAfter_L35 (B + 541) (s : Int) (n : Int) (fun x7 h8 => zbp (q_X8_errorPlaceOf h8 (B + 541) (s : Int) (zw (h8.1 (h8.2 (B + 541) 5) 0 + (n : Int)))) (fun x9 => zgi 597 x9 (zlet (h8.1 (h8.2 (B + 541) 5) x9.toNat) (fun x10 => zbd (q_X8_bringsOld h8 (B + 541)) (fun _ h11 => some (x10, h11)))))) f (1 + i) (zRng hk (B + 541 + 4) (20 + 64 * s) e)) (N := n)
    (fun (e : Nat → Int) i => upi e ((v 0 0 + 1 + (i : Int)) % 64).toNat (sStep e (v (5 + 2 * s) 2) (v 1 6) (sTripD (v (5 + 2 * s) 1) (v 1 0)) (v 0 0 + 1 + (i : Int)))) (s0 := v (6 + 2 * s))
    (kf := fun e => some (e ((v 0 0 + (n : Int)) % 64).toNat, zcpy (zRng hk (B + 541 + 4) (20 + 64 * s) e) (B + 541 + 5) (B + 541 + 4) 597)) (by omega) (fun f i hi => ?_) (fun f => ?_)
  · rw [hring] at key
    refine ⟨_, key, ⟨?_, fun a j hq => ?_⟩, ?_, ?_⟩
    · exact hkr
    · have ha5 : a ≠ B + 541 + 5 := fun z => hq (by unfold zScrt; omega)
      by_cases h4 : a = B + 541 + 4 ∧ j < 597
      · rw [h4.1, zcpy_at h4.2, zRng_ne (Or.inl (by omega)), hk3 j h4.2]
      · rw [zcpy_ne (by omega)]
        by_cases ha : a = B + 541 + 4
        · rw [zRng_ne (Or.inr (Or.inr (by omega))), hk4 a j ha5]
        · rw [zRng_ne (Or.inl ha), hk4 a j ha5]
    · rw [zcpy_ne (Or.inl (by omega)), zRng_ne (Or.inl (by omega)), hk4 _ _ (by omega), h0]
    · rw [zcpy_ne (Or.inl (by omega)), zRng_ne (Or.inl (by omega)), hk4 _ _ (by omega)]
  · have hbi : eB (sRun v s i) := hb i
    show q_X8_errorAfter_L35 (B + 541) (s : Int) (n : Int) _ (f + 1) (1 + (i : Int)) (zRng hk (B + 541 + 4) (20 + 64 * s) (sRun v s i)) = q_X8_errorAfter_L35 (B + 541) (s : Int) (n : Int) _ f (1 + ((i + 1 : Nat) : Int)) (zRng hk (B + 541 + 4) (20 + 64 * s) (upi (sRun v s i) ((v 0 0 + 1 + (i : Int)) % 64).toNat (sStep (sRun v s i) (v (5 + 2 * s) 2) (v 1 6) (sTripD (v (5 + 2 * s) 1) (v 1 0)) (v 0 0 + 1 + (i : Int)))))
    generalize sRun v s i = e at hbi
    rw [q_X8_errorAfter_L35]
    simp only [zlet_b]
    have k1 : ¬ (n : Int) < 1 + (i : Int) := by omega
    have k2 : v 0 0 + (1 + (i : Int)) = v 0 0 + 1 + (i : Int) := by omega
    have k3 : 1 + (i : Int) + 1 = 1 + ((i + 1 : Nat) : Int) := by omega
    have k4 : 1 ≤ v 0 0 + 1 + (i : Int) ∧ v 0 0 + 1 + (i : Int) ≤ 100000 := by omega
    have k5 : ((v 0 0 + 1 + (i : Int)) % 64).toNat < 64 := by omega
    have k6 : zR (v 0 0 + 1 + (i : Int)) := ⟨by omega, by omega⟩
    have k7 : zR (1 + ((i + 1 : Nat) : Int)) := ⟨by omega, by omega⟩
    have e1' : (zRng hk (B + 541 + 4) (20 + 64 * s) e).1 (B + 541 + 4) 1 = v 1 0 := (hlow e 1 (by decide)).trans (hm.2.2.2.2.2.2.2.1 0 (by decide))
    have e7' : (zRng hk (B + 541 + 4) (20 + 64 * s) e).1 (B + 541 + 4) 7 = v 1 6 := (hlow e 7 (by decide)).trans (hm.2.2.2.2.2.2.2.1 6 (by decide))
    have e6' : (zRng hk (B + 541 + 4) (20 + 64 * s) e).1 (B + 541 + 2) (6 + s) = v (5 + 2 * s) 1 := by rw [zRng_ne (Or.inl (by omega)), hk2]; exact ms.2.1
    have e12' : (zRng hk (B + 541 + 4) (20 + 64 * s) e).1 (B + 541 + 2) (12 + s) = v (5 + 2 * s) 2 := by rw [zRng_ne (Or.inl (by omega)), hk2]; exact ms.2.2.1
    rw [if_neg k1, hnowe, k2, zw_id k6, k3, zw_id k7, e8_strays (hl e) hs6 k4 hset.1 hset.2.2.2.2.2.2 hW.2.1 hW.1 e1' e7' e6' e12' (fun j hj => zRng_at hj) hbi, zbd_some, zRng_put k5]
  · show q_X8_errorAfter_L35 (B + 541) (s : Int) (n : Int) _ (f + 1) (1 + (n : Int)) (zRng hk (B + 541 + 4) (20 + 64 * s) (sRun v s n)) = some ((sRun v s n) ((v 0 0 + (n : Int)) % 64).toNat, zcpy (zRng hk (B + 541 + 4) (20 + 64 * s) (sRun v s n)) (B + 541 + 5) (B + 541 + 4) 597)
    generalize sRun v s n = e
    have k1 : (n : Int) < 1 + (n : Int) := by omega
    have k5 : ((v 0 0 + (n : Int)) % 64).toNat < 64 := by omega
    have k6 : zR (v 0 0 + (n : Int)) := ⟨by omega, by omega⟩
    have k7 : 20 + 64 * s + ((v 0 0 + (n : Int)) % 64).toNat < 597 := by omega
    rw [q_X8_errorAfter_L35, if_pos k1, hnowe, zw_id k6, e8_place hs6 (by omega), zbp_some, zgpos k7, Int.toNat_natCast, (hl e).now]
    simp only [zlet_b]
    rw [zRng_at k5, e8_brings (hl e), zbd_some]
theorem zput_2x {h : zH} {a j : Nat} {x : Int} : zput (zput h a j x) a j x = zput h a j x := by
  refine Prod.ext ?_ rfl
  funext q i
  rw [zput_1]
  split
  · next z => rw [z.1, z.2, zput_self]
  · rfl
theorem e8_errEq {h : zH} {v : Nat → Nat → Int} (hm : MV h (B + 541) v) {s a : Int} (hs : 0 ≤ s ∧ s < v 0 3) : q_X8_errorAfter h (B + 541) s a = q_X8_errorAfter (zput h (B + 541) 0 0) (B + 541) s a := by
  unfold q_X8_errorAfter
  rw [m_station hm, m_station hm.p0, if_pos hs, if_pos hs, zput_2x]
theorem op_49 : zI_49 (zInv B) B (B + 541) (B + 552) := by
  intro h hI hG a1 a2 r1 r2
  have hcv := hI.cv
  have hw := hI.wf
  have hns := hw.nS
  have hnow := hw.1
  refine look2 (val := if 0 ≤ a2 ∧ a2 ≤ 200 then sErr (vw h.1 (B + 1)) a1.toNat a2.toNat else -2147483648) (q7 := q_X7_errorAfter h B a1 a2) (q8 := fun h' => q_X8_errorAfter h' (B + 541) a1 a2) hI (fun hg => ?_) (fun hb => ?_)
  · have hg' : 0 ≤ a1 ∧ a1 < vw h.1 (B + 1) 0 3 := Classical.not_not.mp (fun z => hg ((b_station hI).mpr z))
    clear hg
    obtain ⟨s, rfl⟩ : ∃ s : Nat, a1 = (s : Int) := ⟨a1.toNat, by omega⟩
    have hs := hg'.2
    rw [Int.toNat_natCast]
    constructor
    · unfold q_X7_errorAfter
      rw [e7_station hI hs, zbp_some]
      by_cases hf : 0 ≤ a2 ∧ a2 ≤ 200
      · obtain ⟨n, rfl⟩ : ∃ n : Nat, a2 = (n : Int) := ⟨a2.toNat, by omega⟩
        obtain ⟨hc, k1, k2⟩ := e7_probe hI hs
        rw [e_inR hf.1 hf.2, zbp_some, if_neg one0, if_pos hf, k1, zbd_some, Int.toNat_natCast]
        have hIc := hI.same k2.1
        have e0 : hc.1 (hc.2 B 0) 0 = vw h.1 (B + 1) 0 0 := by rw [hIc.r0, a_0, zS_cur k2.1]
        have z1 : zR (vw h.1 (B + 1) 0 0 + (n : Int)) := ⟨by omega, by omega⟩
        have z2 : zR (vw h.1 (B + 1) 0 0 + 1) := ⟨by omega, by omega⟩
        simp only [zlet_b]
        rw [e0, zw_id z1, zw_id z2]
        have hring : zRng hc (B + 84) 0 (vw h.1 (B + 1) (6 + 2 * s)) = hc := zRng_id (fun j hj => by rw [Nat.zero_add]; exact (k2.2.2.2 j hj).symm)
        have hbi := fun i => sRun_b hw hs i
        have key := zloop0 (L := fun f (e : Nat → Int) i => q_X7_errorAfter_L50 B (vw h.1 (B + 1) 0 0 + (n : Int)) (fun _ h10 => zbp (q_X5_errorIn h10 (h10.2 B 2) (vw h.1 (B + 1) 0 0 + (n : Int))) (fun x14 => some (x14, h10))) f (vw h.1 (B + 1) 0 0 + 1 + i) (zRng hc (B + 84) 0 e)) (N := n)
          (fun (e : Nat → Int) i => upi e ((vw h.1 (B + 1) 0 0 + 1 + (i : Int)) % 64).toNat (sStep e (vw h.1 (B + 1) (5 + 2 * s) 2) (vw h.1 (B + 1) 1 6) (sTripD (vw h.1 (B + 1) (5 + 2 * s) 1) (vw h.1 (B + 1) 1 0)) (vw h.1 (B + 1) 0 0 + 1 + (i : Int)))) (s0 := vw h.1 (B + 1) (6 + 2 * s))
          (kf := fun e => some (e ((vw h.1 (B + 1) 0 0 + (n : Int)) % 64).toNat, zRng hc (B + 84) 0 e)) (by omega) (fun f i hi => ?_) (fun f => ?_)
        · rw [hring, Int.add_zero] at key
          exact ⟨_, key, k2.1.rng⟩
        · have hbe : eB (sRun (vw h.1 (B + 1)) s i) := hbi i
          show q_X7_errorAfter_L50 B _ _ (f + 1) (vw h.1 (B + 1) 0 0 + 1 + (i : Int)) (zRng hc (B + 84) 0 (sRun (vw h.1 (B + 1)) s i)) = q_X7_errorAfter_L50 B _ _ f (vw h.1 (B + 1) 0 0 + 1 + ((i + 1 : Nat) : Int)) (zRng hc (B + 84) 0 (upi (sRun (vw h.1 (B + 1)) s i) ((vw h.1 (B + 1) 0 0 + 1 + (i : Int)) % 64).toNat (sStep (sRun (vw h.1 (B + 1)) s i) (vw h.1 (B + 1) (5 + 2 * s) 2) (vw h.1 (B + 1) 1 6) (sTripD (vw h.1 (B + 1) (5 + 2 * s) 1) (vw h.1 (B + 1) 1 0)) (vw h.1 (B + 1) 0 0 + 1 + (i : Int)))))
          generalize sRun (vw h.1 (B + 1)) s i = e at hbe
          have hS := k2.1.rng (e := e)
          have hIe := hI.same hS
          have q1 : ¬ vw h.1 (B + 1) 0 0 + (n : Int) < vw h.1 (B + 1) 0 0 + 1 + (i : Int) := by omega
          have q2 : vw h.1 (B + 1) 0 0 + 1 + (i : Int) + 1 = vw h.1 (B + 1) 0 0 + 1 + ((i + 1 : Nat) : Int) := by omega
          have q3 : 1 ≤ vw h.1 (B + 1) 0 0 + 1 + (i : Int) ∧ vw h.1 (B + 1) 0 0 + 1 + (i : Int) ≤ 100000 := by omega
          have q4 : zR (vw h.1 (B + 1) 0 0 + 1 + ((i + 1 : Nat) : Int)) := ⟨by omega, by omega⟩
          obtain ⟨p1, p2⟩ := e7_pstep hI hs k2 hbe q3
          have p3 : (zRng hc (B + 84) 0 e).1 ((zRng hc (B + 84) 0 e).2 (B + 1) 2) 6 = vw h.1 (B + 1) 1 6 := by rw [a_set hIe.cv, zS_cur hS]
          rw [q_X7_errorAfter_L50]
          simp only [zlet_b]
          rw [if_neg q1, hIe.r0, hIe.r2, p1, zbp_some, p3, p2, zbd_some, q2, zw_id q4]
        · show q_X7_errorAfter_L50 B _ _ (f + 1) (vw h.1 (B + 1) 0 0 + 1 + (n : Int)) (zRng hc (B + 84) 0 (sRun (vw h.1 (B + 1)) s n)) = some (sRun (vw h.1 (B + 1)) s n ((vw h.1 (B + 1) 0 0 + (n : Int)) % 64).toNat, zRng hc (B + 84) 0 (sRun (vw h.1 (B + 1)) s n))
          generalize sRun (vw h.1 (B + 1)) s n = e
          have hS := k2.1.rng (e := e)
          have hIe := hI.same hS
          have q1 : vw h.1 (B + 1) 0 0 + (n : Int) < vw h.1 (B + 1) 0 0 + 1 + (n : Int) := by omega
          rw [q_X7_errorAfter_L50, if_pos q1, hIe.r2, e5_errP (P := B + 83) hIe.rp (by omega), zbp_some]
      · rw [e_inN hf, zbp_some, if_pos rfl, if_neg hf]
        exact ⟨h, rfl, zSame.rf⟩
    · intro h' hs'
      have hm := hI.mv.same hs'
      show ∃ h2, q_X8_errorAfter h' (B + 541) (s : Int) a2 = _ ∧ _
      by_cases hf : 0 ≤ a2 ∧ a2 ≤ 200
      · obtain ⟨n, rfl⟩ : ∃ n : Nat, a2 = (n : Int) := ⟨a2.toNat, by omega⟩
        rw [if_pos hf, Int.toNat_natCast]
        have s2 : zSame B h' (zput h' (B + 541) 0 0) := zSame.rf.put sM0
        obtain ⟨h2, k1, k2, k3, k4⟩ := e8_errAfter (hm.p0 (x := 0)) hs (n := n) (by omega) zput_self
        rw [e8_errEq hm hg']
        exact ⟨h2, k1, s2.tr k2, k3, k4.trans zO_ne⟩
      · have s2 : zSame B h' (zput h' (B + 541) 0 0) := zSame.rf.put sM0
        refine ⟨zput h' (B + 541) 0 0, ?_, s2, zput_self, zO_ne⟩
        unfold q_X8_errorAfter
        rw [m_station hm, if_pos hg', if_neg thr1, if_neg hf]
        by_cases h1 : a2 < 0
        · rw [if_pos h1]
        · rw [if_neg h1, if_neg (by omega)]
  · show ∃ r, q_X8_errorAfter h (B + 541) a1 a2 = _
    unfold q_X8_errorAfter
    rw [m_station hI.mv, if_neg ((b_station hI).mp hb), if_pos rfl]
    exact ⟨0, rfl⟩
def sInT (v : Nat → Nat → Int) (s : Nat) : Int := match zfs (fun i => decide (v 1 1 < 2 * zabs (sErr v s i))) 201 0 with | none => -1 | some i => (i : Int)
theorem sErr_b {v : Nat → Nat → Int} (w : WF v) {s : Nat} (hs : (s : Int) < v 0 3) (n : Nat) : -100000 ≤ sErr v s n ∧ sErr v s n ≤ 100000 := sRun_b w hs n _ (by omega)
theorem abs2 {x : Int} (hx : -100000 ≤ x ∧ x ≤ 100000) : zw (zabs x * 2) = 2 * zabs x := by
  have h : 0 ≤ zabs x ∧ zabs x ≤ 100000 := by
    unfold zabs
    split
    · omega
    · rw [zw_id ⟨by omega, by omega⟩]
      omega
  generalize zabs x = y at h
  rw [zw_id ⟨by omega, by omega⟩]
  omega
theorem e8_inTime {v : Nat → Nat → Int} {s : Nat} (hs : (s : Int) < v 0 3) : ∀ (m i n : Nat) (h : zH), i + m = 201 → m < n → MV h (B + 541) v → h.1 (B + 541) 0 = 0 → ∃ h', q_X8_framesInTime_L16 (B + 541) (s : Int) (fun _ h8 => some (-1, h8)) n (i : Int) h = some ((match zfs (fun i => decide (v 1 1 < 2 * zabs (sErr v s i))) m i with | none => -1 | some i => (i : Int)), h') ∧ zSame B h h' ∧ h'.1 (B + 541) 0 = 0 ∧ h'.1 (B + 552) 0 = h.1 (B + 552) 0 := by
  intro m
  induction m with
  | zero =>
    intro i n h q1 q2 hm h0
    obtain ⟨n', rfl⟩ : ∃ n', n = n' + 1 := ⟨n - 1, by omega⟩
    have e : i = 201 := by omega
    subst e
    refine ⟨h, ?_, zSame.rf, h0, rfl⟩
    rw [q_X8_framesInTime_L16, if_pos (by omega)]
    rfl
  | succ m ih =>
    intro i n h q1 q2 hm h0
    obtain ⟨n', rfl⟩ : ∃ n', n = n' + 1 := ⟨n - 1, by omega⟩
    obtain ⟨h1, k1, k2, k3, k4⟩ := e8_errAfter hm hs (n := i) (by omega) h0
    have hm1 := hm.same k2
    have e1 : h1.1 (h1.2 (B + 541) 5) 2 = v 1 1 := m_set hm1 (j := 1) (by decide)
    have hb := sErr_b hm.2.1 hs i
    rw [q_X8_framesInTime_L16, if_neg (by omega), k1, zbd_some, e1, abs2 hb]
    unfold zfs
    simp only [zlet_b, zdec]
    by_cases hq : v 1 1 < 2 * zabs (sErr v s i)
    · rw [if_pos hq, if_neg (by omega)]
      exact ⟨h1, rfl, k2, k3, k4⟩
    · rw [if_neg hq, if_pos (by omega), zw_s (by omega)]
      obtain ⟨h2, p1, p2, p3, p4⟩ := ih (i + 1) n' h1 (by omega) (by omega) hm1 k3
      exact ⟨h2, p1, k2.tr p2, p3, p4.trans k4⟩
theorem op_51 : zI_51 (zInv B) B (B + 541) (B + 552) := by
  intro h hI hG a1 r1
  have hcv := hI.cv
  have hw := hI.wf
  have hns := hw.nS
  have hnow := hw.1
  refine look2 (val := sInT (vw h.1 (B + 1)) a1.toNat) (q7 := q_X7_framesInTime h B a1) (q8 := fun h' => q_X8_framesInTime h' (B + 541) a1) hI (fun hg => ?_) (fun hb => ?_)
  · have hg' : 0 ≤ a1 ∧ a1 < vw h.1 (B + 1) 0 3 := Classical.not_not.mp (fun z => hg ((b_station hI).mpr z))
    clear hg
    obtain ⟨s, rfl⟩ : ∃ s : Nat, a1 = (s : Int) := ⟨a1.toNat, by omega⟩
    have hs := hg'.2
    rw [Int.toNat_natCast]
    constructor
    · unfold q_X7_framesInTime
      rw [e7_station hI hs, zbp_some]
      obtain ⟨hc, k1, k2⟩ := e7_probe hI hs
      rw [k1, zbd_some]
      have hring : zRng hc (B + 84) 0 (vw h.1 (B + 1) (6 + 2 * s)) = hc := zRng_id (fun j hj => by rw [Nat.zero_add]; exact (k2.2.2.2 j hj).symm)
      have hbi := fun i => sRun_b hw hs i
      have key : ∀ m i n : Nat, i + m = 201 → m < n → ∃ h', q_X7_framesInTime_L14 B (fun _ h9 => some (-1, h9)) n (i : Int) (zRng hc (B + 84) 0 (sRun (vw h.1 (B + 1)) s i)) = some ((match zfs (fun i => decide (vw h.1 (B + 1) 1 1 < 2 * zabs (sErr (vw h.1 (B + 1)) s i))) m i with | none => -1 | some i => (i : Int)), h') ∧ zSame B h h' := by
        intro m
        induction m with
        | zero =>
          intro i n q1 q2
          obtain ⟨n', rfl⟩ : ∃ n', n = n' + 1 := ⟨n - 1, by omega⟩
          have e : i = 201 := by omega
          subst e
          refine ⟨_, ?_, k2.1.rng (e := sRun (vw h.1 (B + 1)) s 201)⟩
          rw [q_X7_framesInTime_L14, if_pos (by omega)]
          rfl
        | succ m ih =>
          intro i n q1 q2
          obtain ⟨n', rfl⟩ : ∃ n', n = n' + 1 := ⟨n - 1, by omega⟩
          obtain ⟨hx, p1, p2⟩ := ih (i + 1) n' (by omega) (by omega)
          have hes : sRun (vw h.1 (B + 1)) s (i + 1) = upi (sRun (vw h.1 (B + 1)) s i) ((vw h.1 (B + 1) 0 0 + 1 + (i : Int)) % 64).toNat (sStep (sRun (vw h.1 (B + 1)) s i) (vw h.1 (B + 1) (5 + 2 * s) 2) (vw h.1 (B + 1) 1 6) (sTripD (vw h.1 (B + 1) (5 + 2 * s) 1) (vw h.1 (B + 1) 1 0)) (vw h.1 (B + 1) 0 0 + 1 + (i : Int))) := rfl
          rw [hes] at p1
          have hbe : eB (sRun (vw h.1 (B + 1)) s i) := hbi i
          have hbb := sErr_b hw hs i
          unfold sErr at hbb
          have hS := k2.1.rng (e := sRun (vw h.1 (B + 1)) s i)
          unfold zfs
          simp only [zdec]
          unfold sErr at p1
          unfold sErr
          generalize sRun (vw h.1 (B + 1)) s i = e at p1 hbe hbb hS
          have hIe := hI.same hS
          have w1 : zR (vw h.1 (B + 1) 0 0 + (i : Int)) := ⟨by omega, by omega⟩
          have w2 : zR (vw h.1 (B + 1) 0 0 + 1 + (i : Int)) := ⟨by omega, by omega⟩
          have w3 : vw h.1 (B + 1) 0 0 + (i : Int) + 1 = vw h.1 (B + 1) 0 0 + 1 + (i : Int) := by omega
          have q3 : 1 ≤ vw h.1 (B + 1) 0 0 + 1 + (i : Int) ∧ vw h.1 (B + 1) 0 0 + 1 + (i : Int) ≤ 100000 := by omega
          have q4 : 0 ≤ vw h.1 (B + 1) 0 0 + (i : Int) ∧ vw h.1 (B + 1) 0 0 + (i : Int) ≤ 100000 := by omega
          have qi : ¬ 200 < (i : Int) := by omega
          have qs : i < 1000000 := by omega
          obtain ⟨t1, t2⟩ := e7_pstep hI hs k2 hbe q3
          have t3 : (zRng hc (B + 84) 0 e).1 ((zRng hc (B + 84) 0 e).2 (B + 1) 2) 6 = vw h.1 (B + 1) 1 6 := by rw [a_set hIe.cv, zS_cur hS]
          have t4 : (zRng hc (B + 84) 0 e).1 ((zRng hc (B + 84) 0 e).2 (B + 1) 2) 1 = vw h.1 (B + 1) 1 1 := by rw [a_set hIe.cv, zS_cur hS]
          have t5 : (zRng hc (B + 84) 0 e).1 (B + 1) 0 = vw h.1 (B + 1) 0 0 := by rw [a_0, zS_cur hS]
          have t6 := e5_errP (hc := hc) (P := B + 83) (e := e) hIe.rp q4
          rw [q_X7_framesInTime_L14, if_neg qi, hIe.r0, t5, hIe.r2]
          simp only [zlet_b]
          unfold q_X5_isOutOfTime
          rw [zw_id w1, t6, zbp_some, abs2 hbb, t4, w3, zw_id w2]
          by_cases hq : vw h.1 (B + 1) 1 1 < 2 * zabs (e ((vw h.1 (B + 1) 0 0 + (i : Int)) % 64).toNat)
          · rw [if_pos hq, if_neg (by omega), zbp_some, if_neg one0]
            exact ⟨_, rfl, hS⟩
          · rw [if_neg hq, if_pos (by omega), zbp_some, if_pos rfl, t1, zbp_some, t3, t2, zbd_some, zw_s qs]
            exact ⟨hx, p1, p2⟩
      have k := key 201 0 zF (by omega) (by unfold zF; omega)
      have e00 : sRun (vw h.1 (B + 1)) s 0 = vw h.1 (B + 1) (6 + 2 * s) := rfl
      rw [e00, hring] at k
      exact k
    · intro h' hs'
      have hm := hI.mv.same hs'
      have s2 : zSame B h' (zput h' (B + 541) 0 0) := zSame.rf.put sM0
      obtain ⟨h2, k1, k2, k3, k4⟩ := e8_inTime hs 201 0 zF (zput h' (B + 541) 0 0) (by omega) (by unfold zF; omega) hm.p0 zput_self
      refine ⟨h2, ?_, s2.tr k2, k3, k4.trans zO_ne⟩
      show q_X8_framesInTime h' (B + 541) (s : Int) = _
      unfold q_X8_framesInTime
      rw [m_station hm, if_pos hg', if_neg thr1]
      exact k1
  · show ∃ r, q_X8_framesInTime h (B + 541) a1 = _
    unfold q_X8_framesInTime
    rw [m_station hI.mv, if_neg ((b_station hI).mp hb), if_pos rfl]
    exact ⟨0, rfl⟩
end OPS
