/-! More looks: fadings, margins, timing, sums over calls. -/
/-- a sum over the calls of a carrier -/
def sOn (v : Nat → Nat → Int) (c : Int) (g : Nat → Int) : Int := zit (fun (a : Int) k => if v (25 + k) 5 = 1 ∧ v (25 + k) 6 = c then a + g k else a) (nCl v) 0
/-- a sum over the active calls that a station sends -/
def sLd (v : Nat → Nat → Int) (s : Int) : Int := zit (fun (a : Int) k => if v (25 + k) 5 = 1 ∧ v (25 + k) 0 = s then a + v (25 + k) 3 else a) (nCl v) 0
/-- how many active calls a station has -/
def sBs (v : Nat → Nat → Int) (s : Int) : Int := zit (fun (a : Int) k => if v (25 + k) 5 = 1 ∧ (v (25 + k) 0 = s ∨ v (25 + k) 1 = s) then a + 1 else a) (nCl v) 0
def sTrip (v : Nat → Nat → Int) (s : Nat) : Int := (2 * v (5 + 2 * s) 1 + v 1 0 - 1).tdiv (v 1 0)
def sMarg (v : Nat → Nat → Int) (k : Nat) (p f : Int) : Int := p - sFade v (v (25 + k) 0) f - sFade v (v (25 + k) 1) f - v 1 4
theorem WF.set {v : Nat → Nat → Int} (w : WF v) : (200 ≤ v 1 0 ∧ v 1 0 ≤ 5000) ∧ (0 ≤ v 1 1 ∧ v 1 1 ≤ 200) ∧ (1 ≤ v 1 2 ∧ v 1 2 ≤ 500) ∧ (1 ≤ v 1 3 ∧ v 1 3 ≤ 200) ∧ (0 ≤ v 1 4 ∧ v 1 4 ≤ 999) ∧ (1 ≤ v 1 5 ∧ v 1 5 ≤ 100) ∧ (1 ≤ v 1 6 ∧ v 1 6 ≤ 100) := by
  have h := w.2.2.2.2.2.1
  exact ⟨h 0 (by decide), h 1 (by decide), h 2 (by decide), h 3 (by decide), h 4 (by decide), h 5 (by decide), h 6 (by decide)⟩
section CL
variable {h : zH} {A : Nat}
theorem a_set (hc : CV h A) (j : Nat) : h.1 (h.2 A 2) j = vw h.1 A 1 j := by rw [hc.1.set, a_1]
theorem tripN {d n : Int} (h1 : 0 ≤ d ∧ d ≤ 5000) (h2 : 200 ≤ n ∧ n ≤ 5000) : zw (zw (zw (2 * d) + n) - 1) = 2 * d + n - 1 ∧ 0 ≤ (2 * d + n - 1).tdiv n ∧ (2 * d + n - 1).tdiv n ≤ 50 ∧ zw ((2 * d + n - 1).tdiv n) = (2 * d + n - 1).tdiv n := by
  have e1 : zw (2 * d) = 2 * d := zw_id ⟨by omega, by omega⟩
  have e2 : zw (2 * d + n) = 2 * d + n := zw_id ⟨by omega, by omega⟩
  have e3 : zw (2 * d + n - 1) = 2 * d + n - 1 := zw_id ⟨by omega, by omega⟩
  have e4 : (2 * d + n - 1).tdiv n = (2 * d + n - 1) / n := Int.tdiv_eq_ediv_of_nonneg (by omega)
  have e5 : 0 ≤ (2 * d + n - 1) / n := Int.ediv_nonneg (by omega) (by omega)
  have e6 : (2 * d + n - 1) / n < 51 := by
    apply Int.ediv_lt_of_lt_mul (by omega)
    omega
  rw [e1, e2, e3, e4]
  exact ⟨rfl, e5, by omega, zw_id ⟨by omega, by omega⟩⟩
theorem e4_trip (hc : CV h A) {s : Nat} (hs : (s : Int) < vw h.1 A 0 3) : q_X4_tripOf h A (A + (5 + 2 * s)) = some (sTrip (vw h.1 A) s) := by
  have hw := hc.2.set.1
  have hd := (hc.2.2.2.2.2.2.2.1 s hs).1
  have h6 := hc.2.nS
  obtain ⟨t1, t2, t3, t4⟩ := tripN hd hw
  unfold q_X4_tripOf
  simp only [zlet_b]
  rw [a_set hc, a_s (by omega), if_neg (by omega), zgz_pos (by omega), t1, t4]
  rfl
theorem e4_marg (hc : CV h A) {k : Nat} (hk : (k : Int) < vw h.1 A 0 7) {p : Int} (hp : 0 ≤ p ∧ p ≤ 999) (f : Int) : q_X4_marginWith h A (A + (25 + k)) p f = some (sMarg (vw h.1 A) k p f) := by
  have hn := hc.2.nC
  have hw := hc.2.set.2.2.2.2.1
  have b0 := sFade_b hc.2 (vw h.1 A (25 + k) 0) f
  have b1 := sFade_b hc.2 (vw h.1 A (25 + k) 1) f
  unfold q_X4_marginWith
  rw [a_c (by omega), a_c (by omega), e4_fade hc, zbp_some, e4_fade hc, zbp_some, a_set hc]
  rw [zw_id (x := p - _) ⟨by omega, by omega⟩, zw_id (x := p - _ - _) ⟨by omega, by omega⟩, zw_id ⟨by omega, by omega⟩]
  rfl
theorem e4_pmarg (hc : CV h A) {k : Nat} (hk : (k : Int) < vw h.1 A 0 7) : q_X4_presentMargin h A (A + (25 + k)) = some (sMarg (vw h.1 A) k (vw h.1 A (5 + 2 * (vw h.1 A (25 + k) 0).toNat) 5) (vw h.1 A 0 0)) := by
  have hn := hc.2.nC
  have h6 := hc.2.nS
  have hw := (hc.2.2.2.2.2.2.2.2.2 k hk).1
  obtain ⟨s, hs⟩ : ∃ s : Nat, vw h.1 A (25 + k) 0 = (s : Int) := ⟨(vw h.1 A (25 + k) 0).toNat, by omega⟩
  rw [hs] at hw
  have hp := (hc.2.2.2.2.2.2.2.1 s hw.2).2.2.2.1
  unfold q_X4_presentMargin
  rw [a_c (by omega), hs, zgi_pos (by omega) (by omega), Int.toNat_natCast, a_stn hc, a_s (by omega), a_0, e4_marg hc hk hp, zbp_some]
theorem e5_err (hc : CV h A) {s : Nat} (hs : s < 6) {f : Int} (h0 : 0 ≤ f) (h1 : f < 2147483648) : q_X5_errorIn h (A + (5 + 2 * s)) f = some (vw h.1 A (6 + 2 * s) (f % 64).toNat) := by
  unfold q_X5_errorIn
  rw [zand_63 h0 h1, zgi_pos (by omega) (by omega), hc.1.er hs, a_e hs]
end CL
section ML
variable {B : Nat} {h : zH} {v : Nat → Nat → Int}
theorem m_now {T : Nat → Int} (hm : MVt h (B + 541) v T) : h.1 (h.2 (B + 541) 5) 0 = v 0 0 := by rw [hm.1.now]; exact hm.2.2.1
theorem m_set {T : Nat → Int} (hm : MVt h (B + 541) v T) {j : Nat} (hj : j < 7) : h.1 (h.2 (B + 541) 5) (1 + j) = v 1 j := by rw [hm.1.now]; exact hm.2.2.2.2.2.2.2.1 j hj
theorem m_s (hm : MV h (B + 541) v) {s : Nat} (hs : (s : Int) < v 0 3) : MRs v (h.1 (h.2 (B + 541) 5)) (h.1 (h.2 (B + 541) 3)) s := by rw [hm.1.now, hm.1.told]; exact hm.2.2.2.2.2.2.2.2.1 s hs
theorem e8_trip (hm : MV h (B + 541) v) {s : Nat} (hs : (s : Int) < v 0 3) : q_X8_tripOf h (B + 541) (s : Int) = some (sTrip v s) := by
  have hw := hm.2.1.set.1
  have hd := (hm.2.1.2.2.2.2.2.2.1 s hs).1
  have h6 := hm.2.1.nS
  obtain ⟨t1, t2, t3, t4⟩ := tripN hd hw
  have e6 : zw (6 + (s : Int)) = ((6 + s : Nat) : Int) := zw_c (c := 6) (by omega)
  have g6 : ∀ (γ : Type) (E : Option γ), zgi 65 ((6 + s : Nat) : Int) E = E := fun _ _ => zgi_pos (by omega) (by omega)
  have gz : ∀ (γ : Type) (E : Option γ), zgz (v 1 0) E = E := fun _ _ => zgz_pos (by omega)
  have ms := (m_s hm hs).2.1
  have m0 : h.1 (h.2 (B + 541) 5) 1 = v 1 0 := m_set hm (j := 0) (by decide)
  unfold q_X8_tripOf
  simp only [zlet_b]
  rw [e6, g6, Int.toNat_natCast, ms, m0, gz, t1, t4]
  rfl
theorem e8_marg (hm : MV h (B + 541) v) {k : Nat} (hk : (k : Int) < v 0 7) {p : Int} (hp : 0 ≤ p ∧ p ≤ 999) (f : Int) : q_X8_margin h (B + 541) (k : Int) p f = some (sMarg v k p f) := by
  have hw := hm.2.1.set.2.2.2.2.1
  have b0 := sFade_b hm.2.1 (v (25 + k) 0) f
  have b1 := sFade_b hm.2.1 (v (25 + k) 1) f
  have m4 : h.1 (h.2 (B + 541) 5) 5 = v 1 4 := m_set hm (j := 4) (by decide)
  unfold q_X8_margin
  rw [m_0 hm hk, zbp_some, e8_fade hm, zbp_some, m_1 hm hk, zbp_some, e8_fade hm, zbp_some, m4]
  rw [ zw_id (x := p - _) ⟨by omega, by omega⟩, zw_id (x := p - _ - _) ⟨by omega, by omega⟩, zw_id ⟨by omega, by omega⟩]
  rfl
theorem e8_marginNow (hm : MV h (B + 541) v) {k : Nat} (hk : (k : Int) < v 0 7) : q_X8_marginNow h (B + 541) (k : Int) = some (sMarg v k (v (5 + 2 * (v (25 + k) 0).toNat) 5) (v 0 0)) := by
  have h6 := hm.2.1.nS
  have hw := (hm.2.1.2.2.2.2.2.2.2.2 k hk).1
  obtain ⟨s, hs⟩ : ∃ s : Nat, v (25 + k) 0 = (s : Int) := ⟨(v (25 + k) 0).toNat, by omega⟩
  have hs2 : (s : Int) < v 0 3 := by omega
  have hp := (hm.2.1.2.2.2.2.2.2.1 s hs2).2.2.2.1
  have e8 : zw (8 + (s : Int)) = ((8 + s : Nat) : Int) := zw_c (c := 8) (by omega)
  have g8 : ∀ (γ : Type) (E : Option γ), zgi 597 ((8 + s : Nat) : Int) E = E := fun _ _ => zgi_pos (by omega) (by omega)
  have ms := (m_s hm hs2).2.2.2.2.2.1
  unfold q_X8_marginNow
  rw [m_0 hm hk, zbp_some, hs, e8, g8, Int.toNat_natCast, ms, m_now hm, e8_marg hm hk hp, zbp_some, Int.toNat_natCast]
end ML
section OPS
variable {B : Nat}
theorem op_10 : zI_10 (zInv B) B (B + 541) (B + 552) := by
  intro h hI hG a1 a2 r1 r2
  exact lk_station hI (q7 := q_X7_fade h B a1 a2) (q8 := fun h' => q_X8_fade h' (B + 541) a1 a2) (fun _ => if 0 ≤ a2 ∧ a2 ≤ 9999 then sFade (vw h.1 (B + 1)) a1 a2 else -2) (fun _ => rfl) (fun _ _ => rfl)
    (fun n hx hn => by
      have e := e7_station hI hn
      rw [← hx] at e
      unfold q_X7_fade
      rw [e, zbp_some, hI.r0]
      by_cases hf : 0 ≤ a2 ∧ a2 ≤ 9999
      · rw [e_inR hf.1 hf.2, zbp_some, if_neg (by decide), e4_fade hI.cv, zbp_some, if_pos hf]
      · rw [e_inN hf, zbp_some, if_pos rfl, if_neg hf])
    (fun n h' h2 hx hn hs hm h0 => by
      refine ⟨h2, ?_, zSame.rf, h0, rfl⟩
      show (if (1 : Int) = 0 then _ else _) = _
      rw [if_neg (by decide)]
      unfold q_X8_isFrame
      by_cases hf : 0 ≤ a2 ∧ a2 ≤ 9999
      · rw [if_neg (by omega), if_neg (by omega), zbp_some, if_neg (by decide), e8_fade hm, zbp_some, if_pos hf]
      · rw [if_neg hf]
        by_cases h1 : a2 < 0
        · rw [if_pos h1, zbp_some, if_pos rfl]
        · rw [if_neg h1, if_pos (by omega), zbp_some, if_pos rfl])
theorem op_13 : zI_13 (zInv B) B (B + 541) (B + 552) := by
  intro h hI hG a1 r1
  exact lk_station hI (q7 := q_X7_roundTrip h B a1) (q8 := fun h' => q_X8_roundTrip h' (B + 541) a1) (fun n => sTrip (vw h.1 (B + 1)) n) (fun _ => rfl) (fun _ _ => rfl)
    (fun n hx hn => by
      subst hx
      unfold q_X7_roundTrip
      rw [e7_station hI hn, zbp_some, hI.r0, e4_trip hI.cv hn, zbp_some])
    (fun n h' h2 hx hn hs hm h0 => by
      subst hx
      refine ⟨h2, ?_, zSame.rf, h0, rfl⟩
      show (if (1 : Int) = 0 then _ else _) = _
      rw [if_neg (by decide), e8_trip hm hn, zbp_some])
theorem op_24 : zI_24 (zInv B) B (B + 541) (B + 552) := by
  intro h hI hG a1 r1
  exact lk_call hI (q7 := q_X7_marginOf h B a1) (q8 := fun h' => q_X8_marginOf h' (B + 541) a1) (fun k => sMarg (vw h.1 (B + 1)) k (vw h.1 (B + 1) (5 + 2 * (vw h.1 (B + 1) (25 + k) 0).toNat) 5) (vw h.1 (B + 1) 0 0)) (fun _ => rfl) (fun _ _ => rfl)
    (fun n hx hn => by
      subst hx
      unfold q_X7_marginOf
      rw [e7_call hI hn, zbp_some, hI.r0, e4_pmarg hI.cv hn, zbp_some])
    (fun n h' h2 hx hn hs hm h0 => by
      subst hx
      refine ⟨h2, ?_, zSame.rf, h0, rfl⟩
      show (if (1 : Int) = 0 then _ else _) = _
      rw [if_neg (by decide), e8_marginNow hm hn, zbp_some])
end OPS
