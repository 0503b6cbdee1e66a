/-! The order of the queue. -/
/-- k comes before l -/
def bf (pr : Nat → Int) (k l : Nat) : Prop := pr l < pr k ∨ (pr k = pr l ∧ k < l)
theorem bf_tr {pr : Nat → Int} {a b c : Nat} (h1 : bf pr a b) (h2 : bf pr b c) : bf pr a c := by unfold bf at *; omega
theorem bf_tot {pr : Nat → Int} {a b : Nat} (h : a ≠ b) (h1 : ¬ bf pr a b) : bf pr b a := by unfold bf at *; omega
theorem bf_as {pr : Nat → Int} {a b : Nat} (h : bf pr a b) : ¬ bf pr b a := by unfold bf at *; omega
/-- the first c places of a hold those of the k below n that are so, in order -/
def Enu (S : Nat → Bool) (pr : Nat → Int) (n c : Nat) (a : Nat → Nat) : Prop :=
  (∀ i, i < c → a i < n ∧ S (a i) = true) ∧ (∀ k, k < n → S k = true → ∃ i, i < c ∧ a i = k) ∧ (∀ i j, i < j → j < c → bf pr (a i) (a j)) ∧ c = nct S n
theorem Enu.skip {S : Nat → Bool} {pr : Nat → Int} {n c : Nat} {a : Nat → Nat} (h : Enu S pr n c a) (hs : ¬ S n = true) : Enu S pr (n + 1) c a := by
  refine ⟨fun i hi => ⟨by have := (h.1 i hi).1; omega, (h.1 i hi).2⟩, fun k hk hk2 => ?_, h.2.2.1, ?_⟩
  · have : k ≠ n := fun z => hs (z ▸ hk2)
    exact h.2.1 k (by omega) hk2
  · rw [nct_s, if_neg hs]; exact h.2.2.2
def ains (a : Nat → Nat) (p x : Nat) : Nat → Nat := fun j => if j < p then a j else if j = p then x else a (j - 1)
theorem Enu.ins {S : Nat → Bool} {pr : Nat → Int} {n c p : Nat} {a : Nat → Nat} (h : Enu S pr n c a) (hs : S n = true) (hp : p ≤ c) (h1 : ∀ j, p ≤ j → j < c → bf pr n (a j)) (h2 : p = 0 ∨ ¬ bf pr n (a (p - 1))) : Enu S pr (n + 1) (c + 1) (ains a p n) := by
  have hbelow : ∀ j, j < p → bf pr (a j) n := by
    intro j hj
    have hl : bf pr (a (p - 1)) n := by
      refine bf_tot ?_ (h2.resolve_left (by omega))
      have := (h.1 (p - 1) (by omega)).1
      omega
    by_cases e : j = p - 1
    · rw [e]; exact hl
    · exact bf_tr (h.2.2.1 j (p - 1) (by omega) (by omega)) hl
  refine ⟨fun i hi => ?_, fun k hk hk2 => ?_, fun i j hij hj => ?_, ?_⟩
  · unfold ains
    split
    · exact ⟨by have := (h.1 i (by omega)).1; omega, (h.1 i (by omega)).2⟩
    · split
      · exact ⟨by omega, hs⟩
      · exact ⟨by have := (h.1 (i - 1) (by omega)).1; omega, (h.1 (i - 1) (by omega)).2⟩
  · by_cases e : k = n
    · refine ⟨p, by omega, ?_⟩
      unfold ains
      rw [if_neg (by omega), if_pos rfl, e]
    · obtain ⟨i, q1, q2⟩ := h.2.1 k (by omega) hk2
      by_cases hi : i < p
      · refine ⟨i, by omega, ?_⟩
        unfold ains
        rw [if_pos hi, q2]
      · refine ⟨i + 1, by omega, ?_⟩
        unfold ains
        rw [if_neg (by omega), if_neg (by omega), Nat.add_sub_cancel, q2]
  · unfold ains
    by_cases q1 : i < p
    · rw [if_pos q1]
      by_cases q2 : j < p
      · rw [if_pos q2]; exact h.2.2.1 i j hij (by omega)
      · rw [if_neg q2]
        by_cases q3 : j = p
        · rw [if_pos q3]; exact hbelow i q1
        · rw [if_neg q3]; exact h.2.2.1 i (j - 1) (by omega) (by omega)
    · rw [if_neg q1, if_neg (show ¬ j < p by omega), if_neg (show ¬ j = p by omega)]
      by_cases q2 : i = p
      · rw [if_pos q2]; exact h1 (j - 1) (by omega) (by omega)
      · rw [if_neg q2]; exact h.2.2.1 (i - 1) (j - 1) (by omega) (by omega)
  · rw [nct_s, if_pos hs, h.2.2.2]
theorem z_bit {m k : Nat} (hm : m < 65536) (hk : k < 16) : zand (zshr (m : Int) (k : Int)) 1 = 0 ↔ ¬ m.testBit k = true := by
  have e := e_isIn (h := (fun _ _ => 0, fun _ _ => 0)) hm hk
  unfold q_X4_isIn at e
  generalize zand (zshr (m : Int) (k : Int)) 1 = x at e
  by_cases q : m.testBit k = true
  · rw [if_pos q] at e
    by_cases q2 : x = 0
    · rw [if_pos q2] at e
      exact absurd (Option.some.inj e) (by decide)
    · exact ⟨fun z => absurd z q2, fun z => absurd q z⟩
  · rw [if_neg q] at e
    by_cases q2 : x = 0
    · exact ⟨fun _ => q, fun _ => q2⟩
    · rw [if_neg q2] at e
      exact absurd (Option.some.inj e) (by decide)
section OPS
variable {B : Nat}
/-- what the sorting may write -/
def zOr (B : Nat) (h g : zH) : Prop := g.2 = h.2 ∧ ∀ a j, a ≠ B + 541 + 7 → ¬ (a = B + 541 ∧ j = 22) → g.1 a j = h.1 a j
theorem zOr.tr {h g f : zH} (h1 : zOr B h g) (h2 : zOr B g f) : zOr B h f := ⟨h2.1.trans h1.1, fun a j p q => (h2.2 a j p q).trans (h1.2 a j p q)⟩
theorem zOr.same {h g : zH} (h1 : zOr B h g) : zSame B h g := ⟨h1.1, fun a j q => h1.2 a j (fun z => q (by unfold zScrt; omega)) (fun z => q (by unfold zScrt; omega))⟩
theorem zOr.p7 {h : zH} {j : Nat} {x : Int} : zOr B h (zput h (B + 541 + 7) j x) := ⟨rfl, fun a i q1 q2 => zput_ne (fun z => q1 z.1)⟩
theorem zOr.p22 {h : zH} {x : Int} : zOr B h (zput h (B + 541) 22 x) := ⟨rfl, fun a i q1 q2 => zput_ne q2⟩
theorem m_ahead {h : zH} {v : Nat → Nat → Int} (hm : MV h (B + 541) v) {k l : Nat} (hk : (k : Int) < v 0 7) (hl : (l : Int) < v 0 7) : (bf (fun k => v (25 + k) 2) k l → q_X8_isAhead h (B + 541) (k : Int) (l : Int) = some 1) ∧ (¬ bf (fun k => v (25 + k) 2) k l → q_X8_isAhead h (B + 541) (k : Int) (l : Int) = some 0) := by
  unfold q_X8_isAhead bf
  rw [m_2 hm hk, m_2 hm hl, zbp_some, zbp_some]
  constructor
  · intro q
    have q : v (25 + l) 2 < v (25 + k) 2 ∨ (v (25 + k) 2 = v (25 + l) 2 ∧ k < l) := q
    by_cases q1 : v (25 + l) 2 < v (25 + k) 2
    · rw [if_pos q1]
    · rw [if_neg q1, if_pos (by omega), if_neg (by omega)]
  · intro q
    have q : ¬ (v (25 + l) 2 < v (25 + k) 2 ∨ (v (25 + k) 2 = v (25 + l) 2 ∧ k < l)) := q
    rw [if_neg (by omega)]
    by_cases q1 : v (25 + k) 2 = v (25 + l) 2
    · rw [if_pos q1, if_pos (by omega)]
    · rw [if_neg q1]
theorem m_shift {v : Nat → Nat → Int} {S : Nat → Bool} {c n i1 : Nat} {a : Nat → Nat} (hE : Enu S (fun k => v (25 + k) 2) n c a) (hn : (n : Int) < v 0 7) (hc : c < 16) {kk : Int → zH → Option (Unit × zH)} : ∀ (p f : Nat) (h : zH), p ≤ c → p < f → MV h (B + 541) v → (∀ j, j < p → h.1 (B + 541 + 7) j = (a j : Int)) → (∀ j, p < j → j ≤ c → h.1 (B + 541 + 7) j = (a (j - 1) : Int)) → (∀ j, p ≤ j → j < c → bf (fun k => v (25 + k) 2) n (a j)) →
    ∃ (p' : Nat) (h' : zH), q_X8_orders_L40 (B + 541) (i1 : Int) (n : Int) kk f (p : Int) h = kk (p' : Int) h' ∧ p' ≤ c ∧ zOr B h h' ∧ h'.1 (B + 541) 22 = h.1 (B + 541) 22 ∧ (∀ j, j < p' → h'.1 (B + 541 + 7) j = (a j : Int)) ∧ (∀ j, p' < j → j ≤ c → h'.1 (B + 541 + 7) j = (a (j - 1) : Int)) ∧ (∀ j, p' ≤ j → j < c → bf (fun k => v (25 + k) 2) n (a j)) ∧ (p' = 0 ∨ ¬ bf (fun k => v (25 + k) 2) n (a (p' - 1))) := by
  intro p
  induction p with
  | zero =>
    intro f h q1 q2 hm h1 h2 h3
    obtain ⟨f', rfl⟩ : ∃ f', f = f' + 1 := ⟨f - 1, by omega⟩
    refine ⟨0, h, ?_, Nat.zero_le _, ⟨rfl, fun _ _ _ _ => rfl⟩, rfl, h1, h2, h3, Or.inl rfl⟩
    rw [q_X8_orders_L40, if_pos (by omega)]
  | succ p ih =>
    intro f h q1 q2 hm h1 h2 h3
    obtain ⟨f', rfl⟩ : ∃ f', f = f' + 1 := ⟨f - 1, by omega⟩
    have hap := (hE.1 p (by omega)).1
    have e7 : h.2 (B + 541) 21 = B + 541 + 7 := hm.1 21
    have z1 : zw (((p + 1 : Nat) : Int) - 1) = (p : Int) := by rw [zw_id ⟨by omega, by omega⟩]; omega
    have z2 : zw (((p + 1 : Nat) : Int) + (-1)) = (p : Int) := by clear z1; rw [zw_id ⟨by omega, by omega⟩]; omega
    obtain ⟨y1, y2⟩ := m_ahead hm (k := n) (l := a p) hn (by clear z1 z2; omega)
    have hp16 : p < 16 := by clear z1 z2; omega
    have hp17 : p + 1 < 16 := by clear z1 z2; omega
    have hpos : ¬ ((p + 1 : Nat) : Int) ≤ 0 := by clear z1 z2; omega
    rw [q_X8_orders_L40, if_neg hpos]
    simp only [zlet_b]
    rw [z1, z2, zgpos hp16, e7, Int.toNat_natCast, h1 p (by omega)]
    clear z1 z2
    by_cases hb : bf (fun k => v (25 + k) 2) n (a p)
    · rw [y1 hb, zbp_some, if_neg one0, zgpos hp16, zgpos hp17, Int.toNat_natCast]
      have s1 : zOr B h (zput h (B + 541 + 7) (p + 1) (a p : Int)) := zOr.p7
      obtain ⟨p', h', k1, k2, k3, k4, k5, k6, k7, k8⟩ := ih f' (zput h (B + 541 + 7) (p + 1) (a p : Int)) (by omega) (by omega) (hm.same s1.same) (fun j hj => by rw [zput_ne (by omega)]; exact h1 j (by omega)) (fun j hj hj2 => by
        by_cases e : j = p + 1
        · rw [e, zput_self, Nat.add_sub_cancel]
        · rw [zput_ne (by omega)]
          exact h2 j (by omega) hj2) (fun j hj hj2 => by
        by_cases e : j = p
        · rw [e]; exact hb
        · exact h3 j (by omega) hj2)
      exact ⟨p', h', k1, k2, s1.tr k3, k4.trans (zput_ne (by omega)), k5, k6, k7, k8⟩
    · rw [y2 hb, zbp_some, if_pos rfl]
      exact ⟨p + 1, h, rfl, q1, ⟨rfl, fun _ _ _ _ => rfl⟩, rfl, h1, h2, h3, Or.inr (by rw [Nat.add_sub_cancel]; exact hb)⟩
/-- the calls whose state is in a mask -/
def sMk (v : Nat → Nat → Int) (m : Nat) : Nat → Bool := fun k => m.testBit (v (25 + k) 5).toNat
theorem m_orders {v : Nat → Nat → Int} {m : Nat} (hm16 : m < 65536) : ∀ (r i f : Nat) (h : zH) (c : Nat) (a : Nat → Nat), i + r = nCl v → r < f → MV h (B + 541) v → Enu (sMk v m) (fun k => v (25 + k) 2) i c a → (∀ j, j < c → h.1 (B + 541 + 7) j = (a j : Int)) → h.1 (B + 541) 22 = (c : Int) →
    ∃ (c' : Nat) (a' : Nat → Nat) (h' : zH), q_X8_orders_L7 (B + 541) (m : Int) (fun _ h14 => some ((), h14)) f (i : Int) h = some ((), h') ∧ zOr B h h' ∧ Enu (sMk v m) (fun k => v (25 + k) 2) (nCl v) c' a' ∧ (∀ j, j < c' → h'.1 (B + 541 + 7) j = (a' j : Int)) ∧ h'.1 (B + 541) 22 = (c' : Int) := by
  intro r
  induction r with
  | zero =>
    intro i f h c a q1 q2 hm hE h1 h2
    obtain ⟨f', rfl⟩ : ∃ f', f = f' + 1 := ⟨f - 1, by omega⟩
    have e : i = nCl v := by omega
    subst e
    refine ⟨c, a, h, ?_, ⟨rfl, fun _ _ _ _ => rfl⟩, hE, h1, h2⟩
    rw [q_X8_orders_L7, m_n7 hm, if_pos (Int.le_refl _)]
  | succ r ih =>
    intro i f h c a q1 q2 hm hE h1 h2
    obtain ⟨f', rfl⟩ : ∃ f', f = f' + 1 := ⟨f - 1, by omega⟩
    have hn := hm.2.1.nC
    have hi7 : (i : Int) < v 0 7 := by omega
    have hst := (hm.2.1.2.2.2.2.2.2.2.2 i hi7).2.2.2.2.2.2.1
    obtain ⟨st, hs⟩ : ∃ st : Nat, v (25 + i) 5 = (st : Int) := ⟨(v (25 + i) 5).toNat, by omega⟩
    have hs16 : st < 16 := by omega
    have eS : sMk v m i = m.testBit st := by
      unfold sMk
      rw [hs, Int.toNat_natCast]
    have hc : c ≤ i := by rw [hE.2.2.2]; exact nct_le i
    rw [q_X8_orders_L7, m_n7 hm, if_neg (by omega), m_5 hm hi7, zbp_some, hs]
    simp only [zlet_b]
    by_cases hq : m.testBit st = true
    · rw [if_neg (fun z => (z_bit hm16 hs16).mp z hq), h2]
      obtain ⟨p, h3, k1, k2, k3, k4, k5, k6, k7, k8⟩ := m_shift (B := B) (i1 := m) hE hi7 (by omega) (kk := fun x7 h8 => zgi 16 x7 (q_X8_orders_L7 (B + 541) (m : Int) (fun _ h14 => some ((), h14)) f' (zw ((i : Int) + 1)) (zput (zput h8 (h8.2 (B + 541) 21) x7.toNat (i : Int)) (B + 541) 22 (zw ((zput h8 (h8.2 (B + 541) 21) x7.toNat (i : Int)).1 (B + 541) 22 + 1))))) c zF h (Nat.le_refl _) (by unfold zF; omega) hm h1 (fun j z1 z2 => by omega) (fun j z1 z2 => by omega)
      have hp16 : p < 16 := by omega
      have e7 : h3.2 (B + 541) 21 = B + 541 + 7 := by rw [k3.1]; exact hm.1 21
      have e22 : (zput h3 (B + 541 + 7) p (i : Int)).1 (B + 541) 22 = (c : Int) := by rw [zput_ne (by omega), k4, h2]
      refine Exists.elim (ih (i + 1) f' (zput (zput h3 (B + 541 + 7) p (i : Int)) (B + 541) 22 ((c + 1 : Nat) : Int)) (c + 1) (ains a p i) (by omega) (by omega) (hm.same (k3.tr (zOr.p7.tr zOr.p22)).same) (hE.ins (by rw [eS]; exact hq) k2 k7 k8) (fun j hj => ?_) zput_self) (fun c' w => ?_)
      · rw [zput_ne (by omega)]
        unfold ains
        by_cases z1 : j < p
        · rw [if_pos z1, zput_ne (by omega), k5 j z1]
        · rw [if_neg z1]
          by_cases z2 : j = p
          · rw [if_pos z2, z2, zput_self]
          · rw [if_neg z2, zput_ne (by omega), k6 j (by omega) (by omega)]
      · obtain ⟨a', h', p1, p2, p3, p4, p5⟩ := w
        refine ⟨c', a', h', ?_, (k3.tr (zOr.p7.tr zOr.p22)).tr p2, p3, p4, p5⟩
        refine Eq.trans k1 ?_
        show zgi 16 (p : Int) _ = _
        rw [zgpos hp16, Int.toNat_natCast, e7, e22, zw_s (by omega), zw_s (by omega)]
        exact p1
    · rw [if_pos ((z_bit hm16 hs16).mpr hq), zw_s (by omega)]
      exact ih (i + 1) f' h c a (by omega) (by omega) hm (hE.skip (by rw [eS]; exact hq)) h1 h2
theorem e8_orders {h : zH} {v : Nat → Nat → Int} {m : Nat} (hm16 : m < 65536) (hm : MV h (B + 541) v) : ∃ (c : Nat) (a : Nat → Nat) (h' : zH), q_X8_orders h (B + 541) (m : Int) = some ((), h') ∧ zOr B h h' ∧ Enu (sMk v m) (fun k => v (25 + k) 2) (nCl v) c a ∧ (∀ j, j < c → h'.1 (B + 541 + 7) j = (a j : Int)) ∧ h'.1 (B + 541) 22 = (c : Int) := by
  have hn := hm.2.1.nC
  have s1 : zOr B h (zput h (B + 541) 22 0) := zOr.p22
  obtain ⟨c, a, h', k1, k2, k3, k4, k5⟩ := m_orders (B := B) (v := v) hm16 (nCl v) 0 zF (zput h (B + 541) 22 0) 0 (fun _ => 0) (Nat.zero_add _) (by unfold zF; omega) (hm.same s1.same) ⟨fun i z => by omega, fun k z => by omega, fun i j z1 z2 => by omega, rfl⟩ (fun j z => by omega) zput_self
  refine ⟨c, a, h', ?_, s1.tr k2, k3, k4, k5⟩
  unfold q_X8_orders
  simp only [zlet_b]
  exact k1
end OPS
