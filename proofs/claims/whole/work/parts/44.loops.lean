/-! Loops over calls, stations and rains. -/
theorem zloopP {σ ρ : Type} {L : Nat → σ → Int → ρ} {N : Nat} (f : σ → Nat → σ) (P : σ → Prop) {s0 : σ} {kf : σ → ρ} (hN : N < 100000) (hP0 : P s0) (hPs : ∀ s i, i < N → P s → P (f s i))
    (h1 : ∀ n s i, i < N → P s → L (n + 1) s (i : Int) = L n (f s i) ((i + 1 : Nat) : Int))
    (h2 : ∀ n s, P s → L (n + 1) s (N : Int) = kf s) : L zF s0 0 = kf (zit f N s0) := by
  have hP : ∀ i, i ≤ N → P (zit f i s0) := fun i hi => zit_inv (fun _ s => P s) hP0 i (fun k hk x hx => hPs x k (by omega) hx)
  exact zloop0 f hN (fun n i hi => h1 n _ i hi (hP i (by omega))) (fun n => h2 n _ (hP N (Nat.le_refl _)))
theorem zw_c {c i : Nat} (h : c + i < 1000000) : zw ((c : Int) + (i : Int)) = ((c + i : Nat) : Int) := by rw [zw_id ⟨by omega, by omega⟩]; omega
theorem zw_0 {a : Int} (h : zR a) : zw (a + 0) = a := by rw [Int.add_zero, zw_id h]
theorem zloopS {σ ρ : Type} {L : Nat → σ → Int → ρ} {N : Nat} (f : σ → Nat → σ) {s0 : σ} {kf : σ → ρ} (hN : N < 100000)
    (h1 : ∀ n s i, i < N → L (n + 1) s (i : Int) = L n (f s i) ((i + 1 : Nat) : Int))
    (h2 : ∀ n s, L (n + 1) s (N : Int) = kf s) : L zF s0 0 = kf (zit f N s0) :=
  zloopP f (fun _ => True) hN trivial (fun _ _ _ _ => trivial) (fun n s i hi _ => h1 n s i hi) (fun n s _ => h2 n s)
/-- how many calls, stations, rains -/
def nCl (v : Nat → Nat → Int) : Nat := (v 0 7).toNat
def nSt (v : Nat → Nat → Int) : Nat := (v 0 3).toNat
def nRn (v : Nat → Nat → Int) : Nat := (v 0 5).toNat
theorem WF.nC {v : Nat → Nat → Int} (w : WF v) : v 0 7 = (nCl v : Int) ∧ nCl v ≤ 16 := by have := w.2.2.2.2.1; unfold nCl; omega
theorem WF.nS {v : Nat → Nat → Int} (w : WF v) : v 0 3 = (nSt v : Int) ∧ nSt v ≤ 6 := by have := w.2.2.1; unfold nSt; omega
theorem WF.nR {v : Nat → Nat → Int} (w : WF v) : v 0 5 = (nRn v : Int) ∧ nRn v ≤ 8 := by have := w.2.2.2.1; unfold nRn; omega
section CL
variable {h : zH} {A : Nat}
theorem a_n7 (hc : CV h A) : h.1 A 7 = (nCl (vw h.1 A) : Int) := by rw [← hc.2.nC.1]; exact (vw_at (o := 0) (by decide)).symm
theorem a_n3 (hc : CV h A) : h.1 A 3 = (nSt (vw h.1 A) : Int) := by rw [← hc.2.nS.1]; exact (vw_at (o := 0) (by decide)).symm
theorem a_n5 (hc : CV h A) : h.1 A 5 = (nRn (vw h.1 A) : Int) := by rw [← hc.2.nR.1]; exact (vw_at (o := 0) (by decide)).symm
theorem a_c {k j : Nat} (hk : k < 16) : h.1 (A + (25 + k)) j = vw h.1 A (25 + k) j := (vw_at (by omega)).symm
theorem a_s {k j : Nat} (hk : k < 6) : h.1 (A + (5 + 2 * k)) j = vw h.1 A (5 + 2 * k) j := (vw_at (by omega)).symm
theorem a_e {k j : Nat} (hk : k < 6) : h.1 (A + (6 + 2 * k)) j = vw h.1 A (6 + 2 * k) j := (vw_at (by omega)).symm
theorem a_r {k j : Nat} (hk : k < 8) : h.1 (A + (17 + k)) j = vw h.1 A (17 + k) j := (vw_at (by omega)).symm
theorem a_0 (j : Nat) : h.1 A j = vw h.1 A 0 j := (vw_at (o := 0) (by decide)).symm
theorem a_1 (j : Nat) : h.1 (A + 1) j = vw h.1 A 1 j := (vw_at (o := 1) (by decide)).symm
theorem a_call (hc : CV h A) {k : Nat} : h.2 (h.2 A 8) k = A + (25 + k) := by rw [hc.1.cls, hc.1.cl]
theorem a_stn (hc : CV h A) {k : Nat} : h.2 (h.2 A 4) k = A + (5 + 2 * k) := by rw [hc.1.sts, hc.1.st]
theorem a_rain (hc : CV h A) {k : Nat} : h.2 (h.2 A 6) k = A + (17 + k) := by rw [hc.1.rns, hc.1.rn]
theorem e4_isOn {k : Nat} (hk : k < 16) {c : Int} : q_X0_isOn h (A + (25 + k)) c = some (if vw h.1 A (25 + k) 5 = 1 ∧ vw h.1 A (25 + k) 6 = c then 1 else 0) := by
  unfold q_X0_isOn
  rw [a_c hk, a_c hk]
  by_cases h1 : vw h.1 A (25 + k) 5 = 1
  · by_cases h2 : vw h.1 A (25 + k) 6 = c
    · rw [if_pos h1, if_pos h2, if_pos ⟨h1, h2⟩]
    · rw [if_pos h1, if_neg h2, if_neg (fun q => h2 q.2)]
  · rw [if_neg h1, if_neg (fun q => h1 q.1)]
/-- the fading over a station -/
def sFade (v : Nat → Nat → Int) (s f : Int) : Int := zit (fun (a : Int) r => if v (17 + r) 0 = s ∧ v (17 + r) 1 ≤ f ∧ f ≤ v (17 + r) 2 then a + v (17 + r) 3 else a) (nRn v) 0
theorem sFade_b {v : Nat → Nat → Int} (w : WF v) (s f : Int) : 0 ≤ sFade v s f ∧ sFade v s f ≤ 3200 := by
  have hn := w.nR
  have key := zit_inv (f := fun (a : Int) r => if v (17 + r) 0 = s ∧ v (17 + r) 1 ≤ f ∧ f ≤ v (17 + r) 2 then a + v (17 + r) 3 else a) (s := 0) (fun i (a : Int) => 0 ≤ a ∧ a ≤ 400 * (i : Int)) ⟨by omega, by omega⟩ (nRn v) (fun i hi a ha => by
    have hw := (w.2.2.2.2.2.2.2.1 i (by omega)).2.2
    split <;> omega)
  have key' : 0 ≤ sFade v s f ∧ sFade v s f ≤ 400 * (nRn v : Int) := key
  omega
theorem fade_pre {v : Nat → Nat → Int} (w : WF v) (s f : Int) : ∀ a : Int, ∀ i, i < nRn v → (0 ≤ a ∧ a ≤ 400 * (i : Int)) → (0 ≤ (if v (17 + i) 0 = s ∧ v (17 + i) 1 ≤ f ∧ f ≤ v (17 + i) 2 then a + v (17 + i) 3 else a) ∧ (if v (17 + i) 0 = s ∧ v (17 + i) 1 ≤ f ∧ f ≤ v (17 + i) 2 then a + v (17 + i) 3 else a) ≤ 400 * ((i + 1 : Nat) : Int)) := by
  intro a i hi ha
  have hn := w.nR
  have hw := (w.2.2.2.2.2.2.2.1 i (by omega)).2.2
  split <;> omega
theorem zloopQ {σ ρ : Type} {L : Nat → σ → Int → ρ} {N : Nat} (f : σ → Nat → σ) (P : Nat → σ → Prop) {s0 : σ} {kf : σ → ρ} (hN : N < 100000) (hP0 : P 0 s0) (hPs : ∀ s i, i < N → P i s → P (i + 1) (f s i))
    (h1 : ∀ n s i, i < N → P i s → L (n + 1) s (i : Int) = L n (f s i) ((i + 1 : Nat) : Int))
    (h2 : ∀ n s, P N s → L (n + 1) s (N : Int) = kf s) : L zF s0 0 = kf (zit f N s0) := by
  have hP : ∀ i, i ≤ N → P i (zit f i s0) := fun i hi => zit_inv P hP0 i (fun k hk x hx => hPs x k (by omega) hx)
  exact zloop0 f hN (fun n i hi => h1 n _ i hi (hP i (by omega))) (fun n => h2 n _ (hP N (Nat.le_refl _)))
theorem e4_fade (hc : CV h A) (s f : Int) : q_X4_fadeIn h A s f = some (sFade (vw h.1 A) s f) := by
  have hn := hc.2.nR
  unfold q_X4_fadeIn
  refine zloopQ (L := fun n a i => q_X4_fadeIn_L5 h A s f (fun x7 _ => some x7) n a i) _ (fun i (a : Int) => 0 ≤ a ∧ a ≤ 400 * (i : Int)) (by omega) ⟨by omega, by omega⟩ (fun a i hi ha => fade_pre hc.2 s f a i hi ha) (fun n a i hi ha => ?_) (fun n a ha => ?_)
  · have hw := (hc.2.2.2.2.2.2.2.2.1 i (by omega)).2.2
    show q_X4_fadeIn_L5 h A s f _ (n + 1) a (i : Int) = _
    rw [q_X4_fadeIn_L5, a_n5 hc, if_neg (by omega), zgi_pos (by omega) (by omega), Int.toNat_natCast]
    dsimp only [zlet]
    have hi8 : i < 8 := by omega
    have ex : zw (a + vw h.1 A (17 + i) 3) = a + vw h.1 A (17 + i) 3 := zw_id ⟨by omega, by omega⟩
    rw [a_rain hc, a_r hi8, a_r hi8, a_r hi8, a_r hi8]
    by_cases h0 : vw h.1 A (17 + i) 0 = s
    · rw [if_pos h0]
      by_cases h1 : vw h.1 A (17 + i) 1 ≤ f ∧ f ≤ vw h.1 A (17 + i) 2
      · rw [e_inR h1.1 h1.2, zbp_some, if_neg (by decide), if_pos ⟨h0, h1⟩, zw_s (by omega), ex]
      · rw [e_inN h1, zbp_some, if_pos rfl, if_neg (fun q => h1 q.2), zw_s (by omega)]
    · rw [if_neg h0, if_neg (fun q => h0 q.1), zw_s (by omega)]
  · show q_X4_fadeIn_L5 h A s f _ (n + 1) a (nRn (vw h.1 A) : Int) = _
    rw [q_X4_fadeIn_L5, a_n5 hc, if_pos (Int.le_refl _)]
end CL
section ML
variable {B : Nat} {h : zH} {v : Nat → Nat → Int}
theorem m_n7 {T : Nat → Int} (hm : MVt h (B + 541) v T) : h.1 (h.2 (B + 541) 5) 404 = (nCl v : Int) := by rw [hm.1.now, hm.2.2.2.2.2.2.1, hm.2.1.nC.1]
theorem m_n3 (hm : MV h (B + 541) v) : h.1 (h.2 (B + 541) 3) 62 = (nSt v : Int) := by rw [hm.1.told, hm.2.2.2.2.1, hm.2.1.nS.1]
theorem m_n5 (hm : MV h (B + 541) v) : h.1 (h.2 (B + 541) 3) 63 = (nRn v : Int) := by rw [hm.1.told, hm.2.2.2.2.2.1, hm.2.1.nR.1]
theorem e8_fade (hm : MV h (B + 541) v) (s f : Int) : q_X8_fadeOf h (B + 541) s f = some (sFade v s f) := by
  have hn := hm.2.1.nR
  unfold q_X8_fadeOf
  refine zloopQ (L := fun n a i => q_X8_fadeOf_L5 h (B + 541) s f (fun x7 _ => some x7) n a i) _ (fun i (a : Int) => 0 ≤ a ∧ a ≤ 400 * (i : Int)) (by omega) ⟨by omega, by omega⟩ (fun a i hi ha => fade_pre hm.2.1 s f a i hi ha) (fun n a i hi ha => ?_) (fun n a ha => ?_)
  · have hw := (hm.2.1.2.2.2.2.2.2.2.1 i (by omega)).2.2
    show q_X8_fadeOf_L5 h (B + 541) s f _ (n + 1) a (i : Int) = _
    rw [q_X8_fadeOf_L5, m_n5 hm, if_neg (by omega)]
    have e30 : zw (30 + (i : Int)) = ((30 + i : Nat) : Int) := zw_c (c := 30) (by omega)
    have e38 : zw (38 + (i : Int)) = ((38 + i : Nat) : Int) := zw_c (c := 38) (by omega)
    have e46 : zw (46 + (i : Int)) = ((46 + i : Nat) : Int) := zw_c (c := 46) (by omega)
    have e54 : zw (54 + (i : Int)) = ((54 + i : Nat) : Int) := zw_c (c := 54) (by omega)
    have ea : zw (a + 0) = a := zw_0 ⟨by omega, by omega⟩
    have ex : zw (a + v (17 + i) 3) = a + v (17 + i) 3 := zw_id ⟨by omega, by omega⟩
    have g30 : ∀ (γ : Type) (E : Option γ), zgi 65 ((30 + i : Nat) : Int) E = E := fun _ _ => zgi_pos (by omega) (by omega)
    have g38 : ∀ (γ : Type) (E : Option γ), zgi 65 ((38 + i : Nat) : Int) E = E := fun _ _ => zgi_pos (by omega) (by omega)
    have g46 : ∀ (γ : Type) (E : Option γ), zgi 65 ((46 + i : Nat) : Int) E = E := fun _ _ => zgi_pos (by omega) (by omega)
    have g54 : ∀ (γ : Type) (E : Option γ), zgi 65 ((54 + i : Nat) : Int) E = E := fun _ _ => zgi_pos (by omega) (by omega)
    obtain ⟨t0, t1, t2, t3⟩ := hm.2.2.2.2.2.2.2.2.2.1 i (by omega)
    dsimp only [zlet]
    rw [e30, e38, e46, e54, ea, zw_s (by omega), g30, g38, g46, g54, Int.toNat_natCast, Int.toNat_natCast, Int.toNat_natCast, Int.toNat_natCast, hm.1.told, t0, t1, t2, t3]
    clear t0 t1 t2 t3
    by_cases h0 : v (17 + i) 0 = s
    · rw [if_pos h0]
      by_cases h1 : f < v (17 + i) 1
      · rw [if_pos h1, if_pos rfl, if_neg (by omega)]
      · rw [if_neg h1]
        by_cases h2 : v (17 + i) 2 < f
        · rw [if_pos h2, if_pos rfl, if_neg (by omega)]
        · rw [if_neg h2, if_neg (by decide), if_pos ⟨h0, by omega, by omega⟩, ex]
    · rw [if_neg h0, if_pos rfl, if_neg (fun q => h0 q.1)]
  · show q_X8_fadeOf_L5 h (B + 541) s f _ (n + 1) a (nRn v : Int) = _
    rw [q_X8_fadeOf_L5, m_n5 hm, if_pos (Int.le_refl _)]
end ML
theorem zInv.cv {B : Nat} {h : zH} (hI : zInv B h) : CV h (B + 1) := ⟨hI.cly, hI.wf⟩
