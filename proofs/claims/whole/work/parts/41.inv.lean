/-! What holds between two calls, and what a look at the exchange may change. -/
/-- two calls are in conflict, the first on its carrier, the second on carrier c -/
def cfl (v : Nat → Nat → Int) (l k : Nat) (c : Int) : Prop := v (25 + l) 6 = c ∨ v (25 + l) 0 = v (25 + k) 0 ∨ v (25 + l) 1 = v (25 + k) 1
/-- a call would stand free at a start of a carrier, were some calls away -/
def Fit (v : Nat → Nat → Int) (W : Nat → Prop) (k : Nat) (c t : Int) : Prop := v 1 2 + v 1 1 ≤ t ∧ t + v (25 + k) 3 + v 1 1 ≤ v 1 0 ∧ ∀ l : Nat, (l : Int) < v 0 7 → v (25 + l) 5 = 1 → ¬ W l → cfl v l k c → ¬ (t < v (25 + l) 7 + v (25 + l) 3 + v 1 1 ∧ v (25 + l) 7 < t + v (25 + k) 3 + v 1 1)
def GI (v : Nat → Nat → Int) : Prop :=
  (∀ k l : Nat, (k : Int) < v 0 7 → (l : Int) < v 0 7 → k ≠ l → v (25 + k) 5 = 1 → v (25 + l) 5 = 1 → cfl v l k (v (25 + k) 6) → v (25 + k) 7 + v (25 + k) 3 + v 1 1 ≤ v (25 + l) 7 ∨ v (25 + l) 7 + v (25 + l) 3 + v 1 1 ≤ v (25 + k) 7)
  ∧ (∀ k : Nat, (k : Int) < v 0 7 → v (25 + k) 5 = 0 → ∀ c t : Int, 0 ≤ c → c < v 0 1 → ¬ Fit v (fun _ => False) k c t)
  ∧ ∀ k : Nat, (k : Int) < v 0 7 → v (25 + k) 5 = 0 → v (25 + k) 9 = -1
def Good (v : Nat → Nat → Int) : Prop := WF v ∧ GI v
def zInv (B : Nat) (h : zH) : Prop :=
  (∀ o, o < 553 → o ≠ 86 → ∀ j, h.2 (B + o) j = B + gO o j)
  ∧ (∃ σ : Nat → Nat, (∀ j, j < 10 → σ j < 10) ∧ (∀ i j, i < 10 → j < 10 → σ i = σ j → i = j) ∧ (∀ j, j < 10 → h.2 (B + 86) j = B + (87 + 41 * σ j))
    ∧ ∀ j : Nat, (j : Int) < h.1 (B + 85) 0 → Good (vw h.1 (B + (87 + 41 * σ j))) ∧ MR (vw h.1 (B + (87 + 41 * σ j))) (fun i => h.1 (B + 541 + 6) (597 * j + i)) (h.1 (B + 541 + 2)))
  ∧ ((0 ≤ h.1 (B + 85) 0 ∧ h.1 (B + 85) 0 ≤ 10) ∧ h.1 (B + 541) 8 = h.1 (B + 85) 0)
  ∧ Good (vw h.1 (B + 1)) ∧ MR (vw h.1 (B + 1)) (h.1 (B + 541 + 4)) (h.1 (B + 541 + 2))
  ∧ ((0 ≤ h.1 (B + 498) 0 ∧ h.1 (B + 498) 0 ≤ 1000) ∧ h.1 (B + 541) 2 = h.1 (B + 498) 0 ∧ ∀ i : Nat, (i : Int) < h.1 (B + 498) 0 → h.1 (B + 541 + 1) i = zand (h.1 (B + 499) i) 255)
  ∧ h.1 (B + 497) 2 = h.1 (B + 541) 17
/-- what nobody reads before it is written -/
def zScrt (B a j : Nat) : Prop := (B + 42 ≤ a ∧ a < B + 85) ∨ (B + 500 ≤ a ∧ a < B + 541) ∨ (a = B + 541 ∧ j ≠ 2 ∧ j ≠ 8 ∧ j ≠ 17) ∨ a = B + 541 + 3 ∨ a = B + 541 + 5 ∨ (B + 541 + 7 ≤ a ∧ a ≤ B + 552) ∨ (a = B + 497 ∧ j ≠ 2) ∨ (a = B + 498 ∧ j ≠ 0)
def zSame (B : Nat) (h h' : zH) : Prop := h'.2 = h.2 ∧ ∀ a j, ¬ zScrt B a j → h'.1 a j = h.1 a j
theorem zSame.rf {B : Nat} {h : zH} : zSame B h h := ⟨rfl, fun _ _ _ => rfl⟩
theorem zSame.tr {B : Nat} {h h' h'' : zH} (h1 : zSame B h h') (h2 : zSame B h' h'') : zSame B h h'' := ⟨h2.1.trans h1.1, fun a j q => (h2.2 a j q).trans (h1.2 a j q)⟩
theorem zSame.put {B : Nat} {h h' : zH} (h1 : zSame B h h') {a j : Nat} {x : Int} (hs : zScrt B a j) : zSame B h (zput h' a j x) :=
  ⟨h1.1, fun b i q => (zput_ne (fun e => q (by rw [e.1, e.2]; exact hs))).trans (h1.2 b i q)⟩
theorem zSame.vw {B : Nat} {h h' : zH} (hs : zSame B h h') {A : Nat} (hA : ∀ o, o < 41 → ∀ j, ¬ zScrt B (A + o) j) : vw h'.1 A = vw h.1 A := vw_ext fun o ho j => hs.2 _ _ (hA o ho j)
theorem zScrt_cur {B o j : Nat} (ho : o < 41) : ¬ zScrt B (B + 1 + o) j := by unfold zScrt; omega
theorem zScrt_kept {B i o j : Nat} (hi : i < 10) (ho : o < 41) : ¬ zScrt B (B + (87 + 41 * i) + o) j := by unfold zScrt; omega
theorem zSame.row {B : Nat} {h h' : zH} (hs : zSame B h h') {a : Nat} (ha : ∀ j, ¬ zScrt B a j) : h'.1 a = h.1 a := by
  funext j
  exact hs.2 a j (ha j)
theorem zInv.same {B : Nat} {h h' : zH} (hI : zInv B h) (hs : zSame B h h') : zInv B h' := by
  obtain ⟨a1, ⟨σ, b1, b2, b3, b4⟩, ⟨c1, c2⟩, d1, d2, ⟨e1, e2, e3⟩, f1⟩ := hI
  have r2 : h'.1 (B + 541 + 2) = h.1 (B + 541 + 2) := hs.row fun j => by unfold zScrt; omega
  have r4 : h'.1 (B + 541 + 4) = h.1 (B + 541 + 4) := hs.row fun j => by unfold zScrt; omega
  have r6 : h'.1 (B + 541 + 6) = h.1 (B + 541 + 6) := hs.row fun j => by unfold zScrt; omega
  have r1 : h'.1 (B + 541 + 1) = h.1 (B + 541 + 1) := hs.row fun j => by unfold zScrt; omega
  have r499 : h'.1 (B + 499) = h.1 (B + 499) := hs.row fun j => by unfold zScrt; omega
  have n85 : h'.1 (B + 85) 0 = h.1 (B + 85) 0 := hs.2 _ _ (by unfold zScrt; omega)
  have n498 : h'.1 (B + 498) 0 = h.1 (B + 498) 0 := hs.2 _ _ (by unfold zScrt; omega)
  have n8 : h'.1 (B + 541) 8 = h.1 (B + 541) 8 := hs.2 _ _ (by unfold zScrt; omega)
  have n2 : h'.1 (B + 541) 2 = h.1 (B + 541) 2 := hs.2 _ _ (by unfold zScrt; omega)
  have n17 : h'.1 (B + 541) 17 = h.1 (B + 541) 17 := hs.2 _ _ (by unfold zScrt; omega)
  have n497 : h'.1 (B + 497) 2 = h.1 (B + 497) 2 := hs.2 _ _ (by unfold zScrt; omega)
  have vc : vw h'.1 (B + 1) = vw h.1 (B + 1) := hs.vw fun o ho j => zScrt_cur ho
  refine ⟨by rw [hs.1]; exact a1, ⟨σ, b1, b2, by rw [hs.1]; exact b3, fun j hj => ?_⟩, ⟨by rw [n85]; exact c1, by rw [n8, n85]; exact c2⟩, by rw [vc]; exact d1, by rw [vc, r4, r2]; exact d2, ⟨by rw [n498]; exact e1, by rw [n2, n498]; exact e2, by rw [n498, r1, r499]; exact e3⟩, by rw [n497, n17]; exact f1⟩
  rw [n85] at hj
  have hj10 : j < 10 := by omega
  have vk : vw h'.1 (B + (87 + 41 * σ j)) = vw h.1 (B + (87 + 41 * σ j)) := hs.vw fun o ho j' => zScrt_kept (b1 j hj10) ho
  rw [vk, r6, r2]
  exact b4 j hj
theorem zInv.cly {B : Nat} {h : zH} (hI : zInv B h) : cly h.2 (B + 1) := by
  intro o ho j
  have := hI.1 (1 + o) (by omega) (by omega) j
  rw [gO_1 ho] at this
  rw [Nat.add_assoc, this]
  omega
theorem zInv.mly {B : Nat} {h : zH} (hI : zInv B h) : mly h.2 (B + 541) := by
  intro j
  refine (hI.1 541 (by decide) (by decide) j).trans ?_
  show B + (541 + sm_O j) = _
  omega
theorem zInv.wf {B : Nat} {h : zH} (hI : zInv B h) : WF (vw h.1 (B + 1)) := hI.2.2.2.1.1
theorem zInv.mv {B : Nat} {h : zH} (hI : zInv B h) : MV h (B + 541) (vw h.1 (B + 1)) := ⟨hI.mly, hI.wf, hI.2.2.2.2.1⟩
theorem MVt.same {B : Nat} {h h' : zH} {v : Nat → Nat → Int} {T : Nat → Int} (hm : MVt h (B + 541) v T) (hs : zSame B h h') : MVt h' (B + 541) v T := by
  obtain ⟨q1, q2, q3⟩ := hm
  have r4 : h'.1 (B + 541 + 4) = h.1 (B + 541 + 4) := hs.row fun j => by unfold zScrt; omega
  exact ⟨by rw [hs.1]; exact q1, q2, by rw [r4]; exact q3⟩
theorem MV.same {B : Nat} {h h' : zH} {v : Nat → Nat → Int} (hm : MV h (B + 541) v) (hs : zSame B h h') : MV h' (B + 541) v := by
  obtain ⟨q1, q2, q3⟩ := hm
  have r2 : h'.1 (B + 541 + 2) = h.1 (B + 541 + 2) := hs.row fun j => by unfold zScrt; omega
  have r4 : h'.1 (B + 541 + 4) = h.1 (B + 541 + 4) := hs.row fun j => by unfold zScrt; omega
  exact ⟨by rw [hs.1]; exact q1, q2, by rw [r4, r2]; exact q3⟩
theorem zInv.r0 {B : Nat} {h : zH} (hI : zInv B h) : h.2 B 0 = B + 1 := hI.1 0 (by decide) (by decide) 0
theorem zInv.r3 {B : Nat} {h : zH} (hI : zInv B h) : h.2 B 3 = B + 85 := hI.1 0 (by decide) (by decide) 3
theorem zInv.r4 {B : Nat} {h : zH} (hI : zInv B h) : h.2 B 4 = B + 497 := hI.1 0 (by decide) (by decide) 4
theorem sM0 {B : Nat} : zScrt B (B + 541) 0 := Or.inr (Or.inr (Or.inl ⟨rfl, by decide, by decide, by decide⟩))
theorem sO {B j : Nat} : zScrt B (B + 552) j := by unfold zScrt; omega
/-- the reference's 'checks' -/
theorem e8_checks {h : zH} {M : Nat} {x : Int} (hx : x = 0 ∨ x = 1) : q_X8_checks h M x = some (x, zput h M 0 (if x = 0 then 1 else 0)) := by
  unfold q_X8_checks
  rcases hx with rfl | rfl
  · rfl
  · rfl
theorem e8_isCall {h : zH} {M : Nat} {v : Nat → Nat → Int} (hm : MV h M v) (x : Int) : q_X8_isCall h M x = some (if 0 ≤ x ∧ x < v 0 7 then 1 else 0) := by
  unfold q_X8_isCall
  rw [hm.1.now, hm.2.2.2.2.2.2.1]
  by_cases h0 : x < 0
  · rw [if_pos h0, if_neg (by omega)]
  · by_cases h1 : v 0 7 ≤ x
    · rw [if_neg h0, if_pos h1, if_neg (by omega)]
    · rw [if_neg h0, if_neg h1, if_pos ⟨by omega, by omega⟩]
theorem e8_isStation {h : zH} {M : Nat} {v : Nat → Nat → Int} (hm : MV h M v) (x : Int) : q_X8_isStation h M x = some (if 0 ≤ x ∧ x < v 0 3 then 1 else 0) := by
  unfold q_X8_isStation
  rw [hm.1.told, hm.2.2.2.2.1]
  by_cases h0 : x < 0
  · rw [if_pos h0, if_neg (by omega)]
  · by_cases h1 : v 0 3 ≤ x
    · rw [if_neg h0, if_pos h1, if_neg (by omega)]
    · rw [if_neg h0, if_neg h1, if_pos ⟨by omega, by omega⟩]
theorem e8_isCarrier {h : zH} {M : Nat} {v : Nat → Nat → Int} (hm : MV h M v) (x : Int) : q_X8_isCarrier h M x = some (if 0 ≤ x ∧ x < v 0 1 then 1 else 0) := by
  unfold q_X8_isCarrier
  rw [hm.1.told, hm.2.2.2.1]
  by_cases h0 : x < 0
  · rw [if_pos h0, if_neg (by omega)]
  · by_cases h1 : v 0 1 ≤ x
    · rw [if_neg h0, if_pos h1, if_neg (by omega)]
    · rw [if_neg h0, if_neg h1, if_pos ⟨by omega, by omega⟩]
theorem e_inR {h : zH} {x lo hi : Int} (h1 : lo ≤ x) (h2 : x ≤ hi) : q_X7_inRange h x lo hi = some 1 := by rw [e_inRange, if_pos ⟨h1, h2⟩]
theorem e_inN {h : zH} {x lo hi : Int} (h1 : ¬ (lo ≤ x ∧ x ≤ hi)) : q_X7_inRange h x lo hi = some 0 := by rw [e_inRange, if_neg h1]
section CK
variable {B : Nat} {h : zH}
theorem vc0 (j : Nat) : vw h.1 (B + 1) 0 j = h.1 (B + 1) j := vw_at (by decide)
theorem e7_call (hI : zInv B h) {k : Nat} (hk : (k : Int) < vw h.1 (B + 1) 0 7) : q_X7_checkedCall h B (k : Int) = some (B + 1 + (25 + k)) := by
  have hw := hI.wf.2.2.2.2.1
  rw [vc0] at hk hw
  unfold q_X7_checkedCall
  rw [hI.r0, zw_id ⟨by omega, by omega⟩, e_inR (by omega) (by omega), zbp_some, if_neg (by decide), zgi_pos (by omega) (by omega), Int.toNat_natCast, hI.cly.cls, hI.cly.cl]
theorem e7_station (hI : zInv B h) {k : Nat} (hk : (k : Int) < vw h.1 (B + 1) 0 3) : q_X7_checkedStation h B (k : Int) = some (B + 1 + (5 + 2 * k)) := by
  have hw := hI.wf.2.2.1
  rw [vc0] at hk hw
  unfold q_X7_checkedStation
  rw [hI.r0, zw_id ⟨by omega, by omega⟩, e_inR (by omega) (by omega), zbp_some, if_neg (by decide), zgi_pos (by omega) (by omega), Int.toNat_natCast, hI.cly.sts, hI.cly.st]
theorem e7_carrier (hI : zInv B h) {x : Int} (h0 : 0 ≤ x) (hk : x < vw h.1 (B + 1) 0 1) : q_X7_checkCarrier h B x = some () := by
  have hw := hI.wf.2.1
  rw [vc0] at hk hw
  unfold q_X7_checkCarrier
  rw [hI.r0, zw_id ⟨by omega, by omega⟩, e_inR (by omega) (by omega), zbp_some, if_neg (by decide)]
end CK
