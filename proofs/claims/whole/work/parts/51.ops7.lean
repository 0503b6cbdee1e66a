/-! When to send; the power to come; the first clear frame. -/
theorem zxor_neg {x y : Int} (hx : zR x) (h0 : 0 ≤ y ∧ y < 2147483648) : zxor x y < 0 ↔ x < 0 := by
  have ex : (zi x).toBitVec.toInt = x := zi_toInt hx
  have ey : (zi y).toBitVec.toInt = y := zi_toInt ⟨by omega, by omega⟩
  have mx := BitVec.msb_eq_toInt (x := (zi x).toBitVec)
  have my := BitVec.msb_eq_toInt (x := (zi y).toBitVec)
  have mz := BitVec.msb_eq_toInt (x := (zi x).toBitVec ^^^ (zi y).toBitVec)
  rw [BitVec.msb_xor, mx, my, ex, ey] at mz
  have e : zxor x y = ((zi x).toBitVec ^^^ (zi y).toBitVec).toInt := by
    unfold zxor
    show (zi x ^^^ zi y).toBitVec.toInt = _
    rw [Int32.toBitVec_xor]
  rw [e]
  have hy : decide (y < 0) = false := by
    rw [decide_eq_false_iff_not]; omega
  rw [hy, Bool.xor_false] at mz
  have := decide_eq_decide.mp mz
  exact this.symm
theorem tmodB {x y : Int} (h : 0 < y) : x.tmod y < y ∧ -y < x.tmod y := by
  have h1 := Int.tmod_lt_of_pos x h
  have h2 := Int.tmod_lt_of_pos (-x) h
  rw [Int.neg_tmod] at h2
  omega
theorem sFM_eq {x y : Int} (hx : -1000000 ≤ x ∧ x ≤ 1000000) (hy : 1 ≤ y ∧ y ≤ 1000000) : sFM x y = if 0 ≤ x.tmod y then x.tmod y else x.tmod y + y := by
  unfold sFM
  have hb := tmodB (x := x) (y := y) (by omega)
  have hz := zxor_neg (x := x) (y := y) ⟨by omega, by omega⟩ ⟨by omega, by omega⟩
  by_cases hneg : x < 0
  · have h3 : x.tmod y ≤ 0 := by
      have := Int.tmod_nonneg (a := -x) y (by omega)
      rw [Int.neg_tmod] at this
      omega
    by_cases h4 : x.tmod y = 0
    · rw [if_neg (fun q => q.2 h4), if_pos (by omega)]
    · rw [if_pos ⟨hz.mpr hneg, h4⟩, if_neg (by omega), zw_id ⟨by omega, by omega⟩]
  · have h3 := Int.tmod_nonneg (a := x) y (by omega)
    rw [if_neg (fun q => hneg (hz.mp q.1)), if_pos h3]
theorem thr1 : ¬ ((1 : Int) = 0) := by decide
section OPS
variable {B : Nat}
def sSnd (v : Nat → Nat → Int) (k : Nat) : Int := if v (25 + k) 5 = 1 then (if 0 ≤ (v (25 + k) 7 - v (5 + 2 * (v (25 + k) 0).toNat) 1).tmod (v 1 0) then (v (25 + k) 7 - v (5 + 2 * (v (25 + k) 0).toNat) 1).tmod (v 1 0) else (v (25 + k) 7 - v (5 + 2 * (v (25 + k) 0).toNat) 1).tmod (v 1 0) + v 1 0) else -1
theorem op_21 : zI_21 (zInv B) B (B + 541) (B + 552) := by
  intro h hI hG a1 r1
  have hcv := hI.cv
  have hw := hcv.2
  have hn := hw.nC
  have hns := hw.nS
  have hset := hw.set
  refine look1 (val := sSnd (vw h.1 (B + 1)) a1.toNat) (q7 := q_X7_sendOffset h B a1) (q8 := fun h' => q_X8_sendOffset h' (B + 541) a1) hI (fun hg => ?_) (fun hb => ?_)
  · have hg' : 0 ≤ a1 ∧ a1 < vw h.1 (B + 1) 0 7 := Classical.not_not.mp (fun z => hg ((b_call hI).mpr z))
    obtain ⟨n, rfl⟩ : ∃ n : Nat, a1 = (n : Int) := ⟨a1.toNat, by omega⟩
    clear hg
    have hc := (hw.2.2.2.2.2.2.2.2 n hg'.2).1
    have hcb := (hw.2.2.2.2.2.2.2.2 n hg'.2).2.2.2.2.1
    obtain ⟨s, hs⟩ : ∃ s : Nat, vw h.1 (B + 1) (25 + n) 0 = (s : Int) := ⟨(vw h.1 (B + 1) (25 + n) 0).toNat, by omega⟩
    have hs3 : (s : Int) < vw h.1 (B + 1) 0 3 := by omega
    have hst := (hw.2.2.2.2.2.2.1 s hs3).1
    rw [Int.toNat_natCast]
    refine ⟨?_, fun h' hs' => ?_⟩
    · unfold q_X7_sendOffset
      simp only [zlet_b]
      rw [e7_call hI hg'.2, zbp_some, hI.r0, a_set hcv, a_c (by omega), a_c (by omega), a_c (by omega)]
      unfold sSnd
      by_cases h5 : vw h.1 (B + 1) (25 + n) 5 = 1
      · have ha := hw.act hg'.2 h5
        rw [if_pos h5, if_pos h5, if_pos (by omega), hs, zgi_pos (by omega) (by omega), Int.toNat_natCast, a_stn hcv, a_s (by omega), zw_id (x := _ - _) ⟨by omega, by omega⟩]
        unfold q_J9_floorMod
        rw [if_neg (by omega), zbp_some, sFM_eq (by omega) (by omega)]
      · rw [if_neg h5, if_neg h5]
    · have hm := hI.mv.same hs'
      have hm2 := hm.p0 (x := 0)
      have s2 : zSame B h' (zput h' (B + 541) 0 0) := zSame.rf.put sM0
      refine ⟨zput h' (B + 541) 0 0, ?_, s2, zput_self, zO_ne⟩
      show q_X8_sendOffset h' (B + 541) (n : Int) = _
      unfold q_X8_sendOffset q_X8_ofActive
      rw [m_call hm, if_pos hg', if_neg thr1, m_act hm2 hg'.2, zbp_some]
      unfold sSnd
      by_cases h5 : vw h.1 (B + 1) (25 + n) 5 = 1
      · have ha := hw.act hg'.2 h5
        have g6 : ∀ (γ : Type) (E : Option γ), zgi 65 ((6 + s : Nat) : Int) E = E := fun _ _ => zgi_pos (by omega) (by omega)
        have gz : ∀ (γ : Type) (E : Option γ), zgz (vw h.1 (B + 1) 1 0) E = E := fun _ _ => zgz_pos (by omega)
        have ew : zw (vw h.1 (B + 1) (25 + n) 7 - vw h.1 (B + 1) (5 + 2 * s) 1) = vw h.1 (B + 1) (25 + n) 7 - vw h.1 (B + 1) (5 + 2 * s) 1 := zw_id ⟨by omega, by omega⟩
        have hb := tmodB (x := vw h.1 (B + 1) (25 + n) 7 - vw h.1 (B + 1) (5 + 2 * s) 1) (y := vw h.1 (B + 1) 1 0) (by omega)
        have hx1 : ¬ vw h.1 (B + 1) (25 + n) 7 = -1 := by omega
        have hy0 := hset.1
        have m0 : (zput h' (B + 541) 0 0).1 ((zput h' (B + 541) 0 0).2 (B + 541) 5) 1 = vw h.1 (B + 1) 1 0 := m_set hm2 (j := 0) (by decide)
        have ms := (m_s hm2 hs3).2.1
        rw [if_pos h5, if_neg thr1, m_7 hm2 hg'.2 h5, zbp_some, zbd_some, zput_self, if_pos rfl, if_neg hx1, if_pos h5]
        simp only [zlet_b]
        have e6 : zw (6 + (s : Int)) = ((6 + s : Nat) : Int) := zw_c (c := 6) (by clear ew; omega)
        rw [m0, m_0 hm2 hg'.2, zbp_some, hs, e6, g6, gz, Int.toNat_natCast, ms, ew, Int.toNat_natCast]
        clear e6 g6 gz ew ms m0 hm2 hm
        generalize (vw h.1 (B + 1) (25 + n) 7 - vw h.1 (B + 1) (5 + 2 * s) 1).tmod (vw h.1 (B + 1) 1 0) = x at hb
        generalize vw h.1 (B + 1) 1 0 = y at hb hy0
        have ez : zw (x + y) = x + y := zw_id ⟨by omega, by omega⟩
        rw [ez]
        by_cases hx : 0 ≤ x
        · rw [if_pos hx, if_pos hx]
        · rw [if_neg hx, if_neg hx]
      · rw [if_neg h5, if_pos rfl, zbd_some, zput_self, if_pos rfl, if_pos rfl, if_neg h5]
  · show ∃ r, q_X8_sendOffset h (B + 541) a1 = _
    unfold q_X8_sendOffset q_X8_ofActive
    rw [m_call hI.mv, if_neg ((b_call hI).mp hb), if_pos rfl, zbd_some, zput_self, if_neg thr1]
    exact ⟨0, rfl⟩
/-- the power of a station in the frame f, after p -/
def sNext (v : Nat → Nat → Int) (s : Nat) (p f : Int) : Int := if zmin (v (5 + 2 * s) 4) (v (5 + 2 * s) 3 + sFade v (s : Int) f) ≤ p then zmax (zmin (v (5 + 2 * s) 4) (v (5 + 2 * s) 3 + sFade v (s : Int) f)) (p - v 1 5) else zmin (zmin (v (5 + 2 * s) 4) (v (5 + 2 * s) 3 + sFade v (s : Int) f)) (p + v 1 5)
theorem sNext_b {v : Nat → Nat → Int} (w : WF v) {s : Nat} (hs : (s : Int) < v 0 3) {p : Int} (hp : 0 ≤ p ∧ p ≤ 999) (f : Int) : 0 ≤ sNext v s p f ∧ sNext v s p f ≤ 999 := by
  have hb := sFade_b w (s : Int) f
  have h1 := (w.2.2.2.2.2.2.1 s hs).2.2.1
  have h2 := w.set.2.2.2.2.2.1
  unfold sNext zmin zmax
  generalize sFade v (s : Int) f = g at hb
  repeat' split
  all_goals omega
theorem e4_next {h : zH} {A : Nat} (hc : CV h A) {s : Nat} (hs : (s : Int) < vw h.1 A 0 3) {p : Int} (hp : 0 ≤ p ∧ p ≤ 999) (f : Int) : q_X4_nextPower h A (s : Int) p f = some (sNext (vw h.1 A) s p f) := by
  have w := hc.2
  have hns := w.nS
  have hb := sFade_b w (s : Int) f
  have h1 := (w.2.2.2.2.2.2.1 s hs).2.2.1
  have h2 := w.set.2.2.2.2.2.1
  unfold q_X4_nextPower
  simp only [zlet_b]
  rw [a_set hc, zgi_pos (by omega) (by omega), e4_fade hc, zbp_some, zgi_pos (by omega) (by omega), Int.toNat_natCast, a_stn hc, a_s (by omega), a_s (by omega)]
  congr 1
  unfold sNext
  generalize sFade (vw h.1 A) (s : Int) f = g at hb
  rw [zw_id (x := _ + g) ⟨by omega, by omega⟩, zw_id (x := -_) ⟨by omega, by omega⟩]
  generalize vw h.1 A (5 + 2 * s) 3 = b at h1
  generalize vw h.1 A (5 + 2 * s) 4 = c at h1
  generalize vw h.1 A 1 5 = d at h2
  have hmin : zmin (b + g) c = zmin c (b + g) := by unfold zmin; split <;> split <;> omega
  rw [hmin]
  have hr : 0 ≤ zmin c (b + g) ∧ zmin c (b + g) ≤ 999 := by unfold zmin; split <;> omega
  generalize zmin c (b + g) = t at hr
  rw [zw_id (x := t - p) ⟨by omega, by omega⟩]
  have hq : -100 ≤ zmax (-d) (zmin d (t - p)) ∧ zmax (-d) (zmin d (t - p)) ≤ 100 := by
    unfold zmin zmax
    repeat' split
    all_goals omega
  rw [zw_id (x := p + _) ⟨by omega, by omega⟩]
  unfold zmin zmax
  repeat' split
  all_goals omega
theorem e8_moved {h : zH} {v : Nat → Nat → Int} (hm : MV h (B + 541) v) {s : Nat} (hs : (s : Int) < v 0 3) {p : Int} (hp : 0 ≤ p ∧ p ≤ 999) (f : Int) : q_X8_moved h (B + 541) (s : Int) p f = some (sNext v s p f) := by
  have w := hm.2.1
  have hns := w.nS
  have hb := sFade_b w (s : Int) f
  have h1 := (w.2.2.2.2.2.2.1 s hs).2.2.1
  have h2 := w.set.2.2.2.2.2.1
  have e18 : zw (18 + (s : Int)) = ((18 + s : Nat) : Int) := zw_c (c := 18) (by omega)
  have e24 : zw (24 + (s : Int)) = ((24 + s : Nat) : Int) := zw_c (c := 24) (by omega)
  have g18 : ∀ (γ : Type) (E : Option γ), zgi 65 ((18 + s : Nat) : Int) E = E := fun _ _ => zgi_pos (by omega) (by omega)
  have g24 : ∀ (γ : Type) (E : Option γ), zgi 65 ((24 + s : Nat) : Int) E = E := fun _ _ => zgi_pos (by omega) (by omega)
  have ms := m_s hm hs
  have m5 : h.1 (h.2 (B + 541) 5) 6 = v 1 5 := m_set hm (j := 5) (by decide)
  unfold q_X8_moved
  simp only [zlet_b]
  rw [e18, e24, g18, g24, e8_fade hm, zbp_some, Int.toNat_natCast, Int.toNat_natCast, ms.2.2.2.1, ms.2.2.2.2.1, m5]
  unfold sNext
  generalize sFade v (s : Int) f = g at hb
  rw [zw_id (x := _ + g) ⟨by omega, by omega⟩, zw_id (x := p - _) ⟨by omega, by omega⟩, zw_id (x := p + _) ⟨by omega, by omega⟩]
  split <;> rfl
/-- the power of a station n frames from now -/
def sPow (v : Nat → Nat → Int) (s n : Nat) : Int := zit (fun p i => sNext v s p (v 0 0 + 1 + (i : Int))) n (v (5 + 2 * s) 5)
theorem sPow_b {v : Nat → Nat → Int} (w : WF v) {s : Nat} (hs : (s : Int) < v 0 3) (n : Nat) : 0 ≤ sPow v s n ∧ sPow v s n ≤ 999 := by
  refine zit_inv (fun _ p => 0 ≤ p ∧ p ≤ 999) (w.2.2.2.2.2.2.1 s hs).2.2.2.1 n (fun i _ x hx => sNext_b w hs hx _)
theorem op_50 : zI_50 (zInv B) B (B + 541) (B + 552) := by
  intro h hI hG a1 a2 r1 r2
  have hcv := hI.cv
  have hw := hcv.2
  have hns := hw.nS
  refine lk_station hI (q7 := q_X7_powerAfter h B a1 a2) (q8 := fun h' => q_X8_powerAfter h' (B + 541) a1 a2) (fun s => if 0 ≤ a2 ∧ a2 ≤ 200 then (if vw h.1 (B + 1) 0 0 + a2 ≤ 9999 then sPow (vw h.1 (B + 1)) s a2.toNat else -1) else -2) (fun _ => rfl) (fun _ _ => rfl) (fun s hx hs => ?_) (fun s h' h2 hx hs hsm hm h0 => ?_)
  · subst hx
    have hp := (hw.2.2.2.2.2.2.1 s hs).2.2.2.1
    unfold q_X7_powerAfter
    simp only [zlet_b]
    rw [e7_station hI hs, zbp_some, hI.r0, a_s (by omega), a_0]
    by_cases hf : 0 ≤ a2 ∧ a2 ≤ 200
    · have hnow := hw.1
      rw [e_inR hf.1 hf.2, zbp_some, if_neg one0, if_pos hf, zw_id (x := _ + a2) ⟨by omega, by omega⟩, zw_id (x := _ + 1) ⟨by omega, by omega⟩]
      by_cases hq : vw h.1 (B + 1) 0 0 + a2 ≤ 9999
      · rw [if_pos hq, if_pos hq]
        obtain ⟨N, rfl⟩ : ∃ N : Nat, a2 = (N : Int) := ⟨a2.toNat, by omega⟩
        rw [Int.toNat_natCast]
        have key := zloopP (L := fun f (p : Int) i => q_X7_powerAfter_L55 h B (s : Int) (vw h.1 (B + 1) 0 0 + (N : Int)) (fun x _ => some x) f p (vw h.1 (B + 1) 0 0 + 1 + i)) (N := N) (s0 := vw h.1 (B + 1) (5 + 2 * s) 5) (kf := fun p => some p) (fun p i => sNext (vw h.1 (B + 1)) s p (vw h.1 (B + 1) 0 0 + 1 + (i : Int))) (fun p => 0 ≤ p ∧ p ≤ 999) (by omega) hp (fun p i _ hq => sNext_b hw hs hq _) (fun f p i hi hpp => ?_) (fun f p hpp => ?_)
        · rw [Int.add_zero] at key
          exact key
        · show q_X7_powerAfter_L55 h B (s : Int) _ _ (f + 1) p _ = _
          rw [q_X7_powerAfter_L55]
          simp only [zlet_b]
          rw [if_neg (by omega), hI.r0, e4_next hcv hs hpp, zbp_some, zw_id (x := _ + 1) ⟨by omega, by omega⟩]
          congr 1
          omega
        · show q_X7_powerAfter_L55 h B (s : Int) _ _ (f + 1) p _ = _
          rw [q_X7_powerAfter_L55, if_pos (by omega)]
      · rw [if_neg hq, if_neg hq]
    · rw [e_inN hf, zbp_some, if_pos rfl, if_neg hf]
  · subst hx
    have hp := (hw.2.2.2.2.2.2.1 s hs).2.2.2.1
    have hnow := hw.1
    refine ⟨h2, ?_, zSame.rf, h0, rfl⟩
    show (if (1 : Int) = 0 then _ else _) = _
    simp only [zlet_b]
    rw [if_neg one0, m_now hm]
    by_cases hf : 0 ≤ a2 ∧ a2 ≤ 200
    · rw [if_neg (by omega), if_pos hf.2, if_pos hf, zw_id (x := _ + a2) ⟨by omega, by omega⟩]
      by_cases hq : vw h.1 (B + 1) 0 0 + a2 ≤ 9999
      · have e8 : zw (8 + (s : Int)) = ((8 + s : Nat) : Int) := zw_c (c := 8) (by omega)
        have g8 : ∀ (γ : Type) (E : Option γ), zgi 597 ((8 + s : Nat) : Int) E = E := fun _ _ => zgi_pos (by omega) (by omega)
        have ms := (m_s hm hs).2.2.2.2.2.1
        rw [if_pos hq, if_pos hq, e8, g8, Int.toNat_natCast, ms]
        obtain ⟨N, rfl⟩ : ∃ N : Nat, a2 = (N : Int) := ⟨a2.toNat, by omega⟩
        rw [Int.toNat_natCast]
        have key := zloopP (L := fun f (p : Int) i => q_X8_powerAfter_L57 (B + 541) (s : Int) (N : Int) (fun x _ h9 => some (x, h9)) f p (1 + i) h2) (N := N) (s0 := vw h.1 (B + 1) (5 + 2 * s) 5) (kf := fun p => some (p, h2)) (fun p i => sNext (vw h.1 (B + 1)) s p (vw h.1 (B + 1) 0 0 + 1 + (i : Int))) (fun p => 0 ≤ p ∧ p ≤ 999) (by omega) hp (fun p i _ hq => sNext_b hw hs hq _) (fun f p i hi hpp => ?_) (fun f p hpp => ?_)
        · exact key
        · show q_X8_powerAfter_L57 (B + 541) (s : Int) _ _ (f + 1) p _ h2 = _
          rw [q_X8_powerAfter_L57]
          simp only [zlet_b]
          rw [if_neg (by omega), m_now hm, zw_id (x := _ + (1 + (i : Int))) ⟨by omega, by omega⟩, e8_moved hm hs hpp, zbp_some, zw_id (x := _ + 1) ⟨by omega, by omega⟩]
          have e1 : vw h.1 (B + 1) 0 0 + (1 + (i : Int)) = vw h.1 (B + 1) 0 0 + 1 + (i : Int) := by omega
          have e2 : 1 + (i : Int) + 1 = 1 + ((i + 1 : Nat) : Int) := by omega
          rw [e1, e2]
        · show q_X8_powerAfter_L57 (B + 541) (s : Int) _ _ (f + 1) p _ h2 = _
          rw [q_X8_powerAfter_L57, if_pos (by omega)]
      · rw [if_neg hq, if_neg hq]
    · rw [if_neg hf]
      by_cases h1 : a2 < 0
      · rw [if_pos h1]
      · rw [if_neg h1, if_neg (by omega)]
/-- the power before the look at the frame i from now -/
def sPre (v : Nat → Nat → Int) (s i : Nat) : Int := sPow v s (i - 1)
def sClr (v : Nat → Nat → Int) (k s : Nat) : Int := match zfs (fun i => decide (0 ≤ sMarg v k (sPow v s i) (v 0 0 + (i : Int)))) ((zmin (v 0 0 + 200) 9999 - v 0 0 + 1).toNat) 0 with | none => -1 | some i => v 0 0 + (i : Int)
theorem op_36 : zI_36 (zInv B) B (B + 541) (B + 552) := by
  intro h hI hG a1 r1
  have hcv := hI.cv
  have hw := hcv.2
  have hn := hw.nC
  have hns := hw.nS
  have hnow := hw.1
  have hN : zmin (vw h.1 (B + 1) 0 0 + 200) 9999 ≤ 9999 ∧ zmin (vw h.1 (B + 1) 0 0 + 200) 9999 ≤ vw h.1 (B + 1) 0 0 + 200 ∧ vw h.1 (B + 1) 0 0 ≤ zmin (vw h.1 (B + 1) 0 0 + 200) 9999 ∧ (zmin (vw h.1 (B + 1) 0 0 + 200) 9999 = 9999 ∨ zmin (vw h.1 (B + 1) 0 0 + 200) 9999 = vw h.1 (B + 1) 0 0 + 200) := by
    unfold zmin
    split <;> omega
  refine lk_call hI (q7 := q_X7_clearFrame h B a1) (q8 := fun h' => q_X8_clearFrame h' (B + 541) a1) (fun k => sClr (vw h.1 (B + 1)) k (vw h.1 (B + 1) (25 + k) 0).toNat) (fun _ => rfl) (fun _ _ => rfl) (fun k hx hk => ?_) (fun k h' h2 hx hk hsm hm h0 => ?_)
  · subst hx
    have hc := (hw.2.2.2.2.2.2.2.2 k hk).1
    obtain ⟨s, hs⟩ : ∃ s : Nat, vw h.1 (B + 1) (25 + k) 0 = (s : Int) := ⟨(vw h.1 (B + 1) (25 + k) 0).toNat, by omega⟩
    have hs3 : (s : Int) < vw h.1 (B + 1) 0 3 := by omega
    have hpb := fun n => sPow_b hw hs3 n
    unfold q_X7_clearFrame
    simp only [zlet_b]
    rw [e7_call hI hk, zbp_some, hI.r0, a_c (by omega), hs, a_0, zgi_pos (by omega) (by omega), Int.toNat_natCast, a_stn hcv, a_s (by omega), zw_id (x := _ + 200) ⟨by omega, by omega⟩]
    unfold sClr
    generalize hZ : zmin (vw h.1 (B + 1) 0 0 + 200) 9999 = Z at hN
    clear hZ
    generalize hNN : (Z - vw h.1 (B + 1) 0 0 + 1).toNat = N
    have key := zfind0 (L := fun f i => q_X7_clearFrame_L50 h B (B + 1 + (25 + k)) Z (fun _ _ => some (-1)) f (sPre (vw h.1 (B + 1)) s i.toNat) (vw h.1 (B + 1) 0 0 + i)) (N := N) (fun i => decide (0 ≤ sMarg (vw h.1 (B + 1)) k (sPow (vw h.1 (B + 1)) s i) (vw h.1 (B + 1) 0 0 + (i : Int)))) (r := fun i => some (vw h.1 (B + 1) 0 0 + (i : Int))) (kf := some (-1)) (by omega) (fun f i hi => ?_) (fun f => ?_)
    · rw [Int.add_zero] at key
      refine Eq.trans key ?_
      generalize zfs _ _ _ = o
      cases o <;> rfl
    · show q_X7_clearFrame_L50 h B _ Z _ (f + 1) _ _ = _
      rw [q_X7_clearFrame_L50]
      simp only [zlet_b, zdec]
      rw [if_neg (by omega), hI.r0, a_0, a_c (by omega), hs, Int.toNat_natCast, zw_id (x := _ + 1) ⟨by omega, by omega⟩]
      have en : vw h.1 (B + 1) 0 0 + (i : Int) + 1 = vw h.1 (B + 1) 0 0 + ((i + 1 : Nat) : Int) := by omega
      have ep : sPre (vw h.1 (B + 1)) s ((i + 1 : Nat) : Int).toNat = sPow (vw h.1 (B + 1)) s i := by
        rw [Int.toNat_natCast]
        rfl
      have hpi := hpb (i - 1)
      by_cases h0 : i = 0
      · subst h0
        have e0 : sPre (vw h.1 (B + 1)) s 0 = sPow (vw h.1 (B + 1)) s 0 := rfl
        rw [if_pos (by omega), e0, e4_marg hcv hk (hpb 0), zbp_some]
        show (if sMarg (vw h.1 (B + 1)) k (sPow (vw h.1 (B + 1)) s 0) (vw h.1 (B + 1) 0 0 + ((0 : Nat) : Int)) < 0 then _ else _) = _
        rw [ep, en]
        by_cases hg : 0 ≤ sMarg (vw h.1 (B + 1)) k (sPow (vw h.1 (B + 1)) s 0) (vw h.1 (B + 1) 0 0 + ((0 : Nat) : Int))
        · rw [if_neg (by omega), if_pos hg]
        · rw [if_pos (by omega), if_neg hg]
      · have ex : sNext (vw h.1 (B + 1)) s (sPow (vw h.1 (B + 1)) s (i - 1)) (vw h.1 (B + 1) 0 0 + (i : Int)) = sPow (vw h.1 (B + 1)) s i := by
          obtain ⟨j, rfl⟩ : ∃ j, i = j + 1 := ⟨i - 1, by omega⟩
          show _ = sNext (vw h.1 (B + 1)) s (sPow (vw h.1 (B + 1)) s j) (vw h.1 (B + 1) 0 0 + 1 + (j : Int))
          congr 1
          omega
        rw [if_neg (by omega)]
        show zbp (q_X4_nextPower h (B + 1) (s : Int) (sPow (vw h.1 (B + 1)) s (i - 1)) _) _ = _
        rw [e4_next hcv hs3 hpi, zbp_some, ex, e4_marg hcv hk (hpb i), zbp_some, ep, en]
        by_cases hg : 0 ≤ sMarg (vw h.1 (B + 1)) k (sPow (vw h.1 (B + 1)) s i) (vw h.1 (B + 1) 0 0 + (i : Int))
        · rw [if_neg (by omega), if_pos hg]
        · rw [if_pos (by omega), if_neg hg]
    · show q_X7_clearFrame_L50 h B _ Z _ (f + 1) _ _ = _
      rw [q_X7_clearFrame_L50, if_pos (by omega)]
  · subst hx
    have hc := (hw.2.2.2.2.2.2.2.2 k hk).1
    obtain ⟨s, hs⟩ : ∃ s : Nat, vw h.1 (B + 1) (25 + k) 0 = (s : Int) := ⟨(vw h.1 (B + 1) (25 + k) 0).toNat, by omega⟩
    have hs3 : (s : Int) < vw h.1 (B + 1) 0 3 := by omega
    have hpb := fun n => sPow_b hw hs3 n
    have g8 : ∀ (γ : Type) (E : Option γ), zgi 597 ((8 + s : Nat) : Int) E = E := fun _ _ => zgi_pos (by omega) (by omega)
    have e8 : zw (8 + (s : Int)) = ((8 + s : Nat) : Int) := zw_c (c := 8) (by omega)
    have ms := (m_s hm hs3).2.2.2.2.2.1
    refine ⟨h2, ?_, zSame.rf, h0, rfl⟩
    show (if (1 : Int) = 0 then _ else _) = _
    simp only [zlet_b]
    rw [if_neg one0, m_0 hm hk, zbp_some, hs, e8, g8, Int.toNat_natCast, ms, m_now hm, Int.toNat_natCast]
    clear e8 g8 ms
    unfold sClr
    generalize hZ : zmin (vw h.1 (B + 1) 0 0 + 200) 9999 = Z at hN
    clear hZ
    generalize hNN : (Z - vw h.1 (B + 1) 0 0 + 1).toNat = N
    have key := zfind0 (L := fun f i => q_X8_clearFrame_L39 (B + 541) (k : Int) (s : Int) (fun _ _ h14 => some (-1, h14)) f (sPre (vw h.1 (B + 1)) s i.toNat) (vw h.1 (B + 1) 0 0 + i) h2) (N := N) (fun i => decide (0 ≤ sMarg (vw h.1 (B + 1)) k (sPow (vw h.1 (B + 1)) s i) (vw h.1 (B + 1) 0 0 + (i : Int)))) (r := fun i => some (vw h.1 (B + 1) 0 0 + (i : Int), h2)) (kf := some (-1, h2)) (by omega) (fun f i hi => ?_) (fun f => ?_)
    · rw [Int.add_zero] at key
      refine Eq.trans key ?_
      generalize zfs _ _ _ = o
      cases o <;> rfl
    · show q_X8_clearFrame_L39 (B + 541) _ _ _ (f + 1) _ _ h2 = _
      rw [q_X8_clearFrame_L39]
      simp only [zlet_b, zdec]
      rw [m_now hm, zw_id (x := _ + 200) ⟨by omega, by omega⟩, if_neg (by omega), if_neg (by omega), Int.toNat_natCast, zw_id (x := _ + 1) ⟨by omega, by omega⟩]
      have en : vw h.1 (B + 1) 0 0 + (i : Int) + 1 = vw h.1 (B + 1) 0 0 + ((i + 1 : Nat) : Int) := by omega
      have ep : sPre (vw h.1 (B + 1)) s ((i + 1 : Nat) : Int).toNat = sPow (vw h.1 (B + 1)) s i := by
        rw [Int.toNat_natCast]
        rfl
      have hpi := hpb (i - 1)
      by_cases h0 : i = 0
      · subst h0
        have e0 : sPre (vw h.1 (B + 1)) s 0 = sPow (vw h.1 (B + 1)) s 0 := rfl
        rw [if_pos (by omega), e0, e8_marg hm hk (hpb 0), zbp_some]
        show (if sMarg (vw h.1 (B + 1)) k (sPow (vw h.1 (B + 1)) s 0) (vw h.1 (B + 1) 0 0 + ((0 : Nat) : Int)) < 0 then _ else _) = _
        rw [ep, en]
        by_cases hg : 0 ≤ sMarg (vw h.1 (B + 1)) k (sPow (vw h.1 (B + 1)) s 0) (vw h.1 (B + 1) 0 0 + ((0 : Nat) : Int))
        · rw [if_neg (by omega), if_pos hg]
        · rw [if_pos (by omega), if_neg hg]
      · have ex : sNext (vw h.1 (B + 1)) s (sPow (vw h.1 (B + 1)) s (i - 1)) (vw h.1 (B + 1) 0 0 + (i : Int)) = sPow (vw h.1 (B + 1)) s i := by
          obtain ⟨j, rfl⟩ : ∃ j, i = j + 1 := ⟨i - 1, by omega⟩
          show _ = sNext (vw h.1 (B + 1)) s (sPow (vw h.1 (B + 1)) s j) (vw h.1 (B + 1) 0 0 + 1 + (j : Int))
          congr 1
          omega
        rw [if_neg (by omega)]
        show zbp (q_X8_moved h2 (B + 541) (s : Int) (sPow (vw h.1 (B + 1)) s (i - 1)) _) _ = _
        rw [e8_moved hm hs3 hpi, zbp_some, ex, e8_marg hm hk (hpb i), zbp_some, ep, en]
        by_cases hg : 0 ≤ sMarg (vw h.1 (B + 1)) k (sPow (vw h.1 (B + 1)) s i) (vw h.1 (B + 1) 0 0 + (i : Int))
        · rw [if_neg (by omega), if_pos hg]
        · rw [if_pos (by omega), if_neg hg]
    · show q_X8_clearFrame_L39 (B + 541) _ _ _ (f + 1) _ _ h2 = _
      rw [q_X8_clearFrame_L39, m_now hm, zw_id (x := _ + 200) ⟨by omega, by omega⟩]
      by_cases q : 9999 < vw h.1 (B + 1) 0 0 + (N : Int)
      · rw [if_pos q]
      · rw [if_neg q, if_pos (by omega)]
end OPS
