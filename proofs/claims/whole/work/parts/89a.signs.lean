/-! The signs of the text, and its words. -/
theorem zput_same {h : zH} {a j : Nat} {x : Int} (e : h.1 a j = x) : zput h a j x = h := by
  refine Prod.ext ?_ rfl
  funext b i
  by_cases q : b = a ∧ i = j
  · rw [zput_1, if_pos q, q.1, q.2, e]
  · rw [zput_ne q]
/-- two cells of one object -/
def z2 (h : zH) (a i j : Nat) (x y : Int) : zH := zput (zput h a i x) a j y
theorem z2_z2 {h : zH} {a i j : Nat} {x y x' y' : Int} (hij : i ≠ j) : z2 (z2 h a i j x y) a i j x' y' = z2 h a i j x' y' := by
  unfold z2
  refine Prod.ext ?_ rfl
  funext q l
  by_cases e1 : q = a ∧ l = j
  · rw [zput_1, if_pos e1, zput_1, if_pos e1]
  · rw [zput_ne e1, zput_ne e1]
    by_cases e2 : q = a ∧ l = i
    · rw [zput_1, if_pos e2, zput_1, if_pos e2]
    · rw [zput_ne e2, zput_ne e1, zput_ne e2, zput_ne e2]
theorem z2_x {h : zH} {a i j : Nat} {x y : Int} (hij : i ≠ j) : (z2 h a i j x y).1 a i = x := by unfold z2; rw [zput_ne (fun z => hij z.2), zput_self]
theorem z2_y {h : zH} {a i j : Nat} {x y : Int} : (z2 h a i j x y).1 a j = y := by unfold z2; rw [zput_self]
theorem z2_ne {h : zH} {a i j q l : Nat} {x y : Int} (hn : ¬ (q = a ∧ (l = i ∨ l = j))) : (z2 h a i j x y).1 q l = h.1 q l := by
  unfold z2
  rw [zput_ne (fun z => hn ⟨z.1, Or.inr z.2⟩), zput_ne (fun z => hn ⟨z.1, Or.inl z.2⟩)]
theorem zand_255 (y : Int) : 0 ≤ zand y 255 ∧ zand y 255 ≤ 255 := by
  unfold zand
  have e : (zi y &&& zi 255).toBitVec.toNat = (zi y).toBitVec.toNat &&& 255 := by
    rw [Int32.toBitVec_and, BitVec.toNat_and]
    rfl
  have hle : (zi y).toBitVec.toNat &&& 255 ≤ 255 := Nat.and_le_right
  rw [bv_int (by rw [e]; omega), e]
  omega
def chr (t : Nat → Int) (len x : Nat) : Int := if x < len then t x else -1
def Tb (t : Nat → Int) (len : Nat) : Prop := len ≤ 1000 ∧ ∀ i, i < len → 0 ≤ t i ∧ t i ≤ 255
def TxC (K : Nat) (t : Nat → Int) (len : Nat) (h : zH) : Prop := h.1 K 2 = (len : Int) ∧ h.2 K 1 = K + 1 ∧ ∀ i, i < len → zand (h.1 (K + 1) i) 255 = t i
def TxR (M : Nat) (t : Nat → Int) (len : Nat) (g : zH) : Prop := g.1 M 9 = (len : Int) ∧ g.2 M 1 = M + 1 ∧ ∀ i, i < len → g.1 (M + 1) i = t i
theorem TxC.put {K : Nat} {t : Nat → Int} {len : Nat} {h : zH} (hc : TxC K t len h) {j : Nat} {x : Int} (hj : j ≠ 2) : TxC K t len (zput h K j x) := ⟨by rw [zput_ne (by omega)]; exact hc.1, hc.2.1, fun i hi => by rw [zput_ne (by omega)]; exact hc.2.2 i hi⟩
theorem TxR.put {M : Nat} {t : Nat → Int} {len : Nat} {g : zH} (hc : TxR M t len g) {j : Nat} {x : Int} (hj : j ≠ 9) : TxR M t len (zput g M j x) := ⟨by rw [zput_ne (by omega)]; exact hc.1, hc.2.1, fun i hi => by rw [zput_ne (by omega)]; exact hc.2.2 i hi⟩
section TK
variable {K M : Nat} {t : Nat → Int} {len : Nat} {h g : zH}
theorem e6_sign (hb : Tb t len) (hc : TxC K t len h) (x : Nat) : q_X6_signAt h K (x : Int) = some (chr t len x) := by
  unfold q_X6_signAt chr
  rw [if_neg (by omega), hc.1]
  by_cases q : x < len
  · have h1 := hb.1
    rw [if_neg (by omega), if_neg (by omega), zgpos (by omega), if_pos q, Int.toNat_natCast, hc.2.1, hc.2.2 x q]
  · rw [if_pos (by omega), if_neg q]
theorem e8_here (hb : Tb t len) (hc : TxR M t len g) {x : Nat} (hx : g.1 M 10 = (x : Int)) : q_X8_here g M = some (chr t len x) := by
  unfold q_X8_here chr
  rw [hc.1, hx]
  by_cases q : x < len
  · have h1 := hb.1
    rw [if_neg (by omega), zgpos (by omega), if_pos q, Int.toNat_natCast, hc.2.1, hc.2.2 x q]
  · rw [if_pos (by omega), if_neg q]
theorem chr_in {x : Nat} (q : x < len) : chr t len x = t x := by unfold chr; rw [if_pos q]
theorem chr_out {x : Nat} (q : ¬ x < len) : chr t len x = -1 := by unfold chr; rw [if_neg q]
theorem e6_let {c : Int} : q_X6_isLetter h c = some (if 97 ≤ c ∧ c ≤ 122 then 1 else 0) := by
  unfold q_X6_isLetter
  by_cases a : c < 97
  · rw [if_pos a, if_neg (by omega)]
  · rw [if_neg a]
    by_cases b : 122 < c
    · rw [if_pos b, if_neg (by omega)]
    · rw [if_neg b, if_pos (by omega)]
theorem e8_let {c : Int} : q_X8_isSmall h c = some (if 97 ≤ c ∧ c ≤ 122 then 1 else 0) := by
  unfold q_X8_isSmall
  by_cases a : c < 97
  · rw [if_pos a, if_neg (by omega)]
  · rw [if_neg a]
    by_cases b : 122 < c
    · rw [if_pos b, if_neg (by omega)]
    · rw [if_neg b, if_pos (by omega)]
theorem e6_dig {c : Int} : q_X6_isDigit h c = some (if 48 ≤ c ∧ c ≤ 57 then 1 else 0) := by
  unfold q_X6_isDigit
  by_cases a : c < 48
  · rw [if_pos a, if_neg (by omega)]
  · rw [if_neg a]
    by_cases b : 57 < c
    · rw [if_pos b, if_neg (by omega)]
    · rw [if_neg b, if_pos (by omega)]
theorem e8_dig {c : Int} : q_X8_isDigit h c = some (if 48 ≤ c ∧ c ≤ 57 then 1 else 0) := by
  unfold q_X8_isDigit
  by_cases a : c < 48
  · rw [if_pos a, if_neg (by omega)]
  · rw [if_neg a]
    by_cases b : 57 < c
    · rw [if_pos b, if_neg (by omega)]
    · rw [if_neg b, if_pos (by omega)]
/-- both go over blanks alike -/
theorem m_skip (hb : Tb t len) {k : zH → Option (Unit × zH)} {k8 : zH → Option (Unit × zH)} : ∀ (r x f f8 : Nat) (h g : zH), x + r = len → r < f → r < f8 → TxC K t len h → h.1 K 3 = (x : Int) → TxR M t len g → g.1 M 10 = (x : Int) →
    ∃ x1, x ≤ x1 ∧ x1 ≤ len ∧ q_X6_step_L0 K k f h = k (zput h K 3 (x1 : Int)) ∧ q_X8_next_L0 M k8 f8 g = k8 (zput g M 10 (x1 : Int)) := by
  intro r
  induction r with
  | zero =>
    intro x f f8 h g q1 q2 q3 hc h3 hr g10
    obtain ⟨f', rfl⟩ : ∃ f', f = f' + 1 := ⟨f - 1, by omega⟩
    obtain ⟨f8', rfl⟩ : ∃ f', f8 = f' + 1 := ⟨f8 - 1, by omega⟩
    have hh := e8_here hb hr g10
    rw [chr_out (by omega)] at hh
    refine ⟨x, Nat.le_refl _, by omega, ?_, ?_⟩
    · rw [zput_same h3, q_X6_step_L0, hc.1, h3, if_pos (by omega)]
    · rw [zput_same g10, q_X8_next_L0, hh, zbp_some, if_neg (by decide), zbp_some, if_neg (by decide)]
  | succ r ih =>
    intro x f f8 h g q1 q2 q3 hc h3 hr g10
    obtain ⟨f', rfl⟩ : ∃ f', f = f' + 1 := ⟨f - 1, by omega⟩
    obtain ⟨f8', rfl⟩ : ∃ f', f8 = f' + 1 := ⟨f8 - 1, by omega⟩
    have hxl : x < len := by omega
    have h1000 := hb.1
    have hh := e8_here hb hr g10
    have hs := e6_sign hb hc x
    rw [chr_in hxl] at hh hs
    have hnl : ¬ (len : Int) ≤ (x : Int) := by omega
    have hx6 : x < 1000000 := by omega
    have go : ∃ x1, x + 1 ≤ x1 ∧ x1 ≤ len ∧ q_X6_step_L0 K k f' (zput h K 3 ((x + 1 : Nat) : Int)) = k (zput h K 3 (x1 : Int)) ∧ q_X8_next_L0 M k8 f8' (zput g M 10 ((x + 1 : Nat) : Int)) = k8 (zput g M 10 (x1 : Int)) := by
      obtain ⟨x1, p1, p2, p3, p4⟩ := ih (x + 1) f' f8' (zput h K 3 ((x + 1 : Nat) : Int)) (zput g M 10 ((x + 1 : Nat) : Int)) (by omega) (by omega) (by omega) (hc.put (by decide)) zput_self (hr.put (by decide)) zput_self
      exact ⟨x1, p1, p2, by rw [p3, zput_put], by rw [p4, zput_put]⟩
    have cls : q_X6_step_L0 K k (f' + 1) h = if t x = 32 then q_X6_step_L0 K k f' (zput h K 3 ((x + 1 : Nat) : Int)) else if t x = 10 then q_X6_step_L0 K k f' (zput h K 3 ((x + 1 : Nat) : Int)) else k h := by
      rw [q_X6_step_L0, hc.1, h3, if_neg hnl, hs, zbp_some]
      simp only [zlet_b, zbp_some]
      rw [zw_s hx6]
    have ref : q_X8_next_L0 M k8 (f8' + 1) g = if t x = 10 then q_X8_next_L0 M k8 f8' (zput g M 10 ((x + 1 : Nat) : Int)) else if t x = 32 then q_X8_next_L0 M k8 f8' (zput g M 10 ((x + 1 : Nat) : Int)) else k8 g := by
      rw [q_X8_next_L0, hh, zbp_some]
      simp only [zlet_b, zbp_some]
      rw [g10, zw_s hx6]
    rw [cls, ref]
    by_cases a : t x = 32
    · obtain ⟨x1, p1, p2, p3, p4⟩ := go
      rw [if_pos a, if_neg (by omega), if_pos a]
      exact ⟨x1, by omega, p2, p3, p4⟩
    · rw [if_neg a]
      by_cases b : t x = 10
      · obtain ⟨x1, p1, p2, p3, p4⟩ := go
        rw [if_pos b, if_pos b]
        exact ⟨x1, by omega, p2, p3, p4⟩
      · rw [if_neg b, if_neg b, if_neg a]
        exact ⟨x, Nat.le_refl _, by omega, by rw [zput_same h3], by rw [zput_same g10]⟩
/-- both go over letters alike -/
theorem m_lett (hb : Tb t len) {k : zH → Option (Unit × zH)} {k8 : zH → Option (Unit × zH)} : ∀ (r x f f8 : Nat) (h g : zH), x + r = len → r < f → r < f8 → TxC K t len h → h.1 K 3 = (x : Int) → TxR M t len g → g.1 M 10 = (x : Int) →
    ∃ x1, x ≤ x1 ∧ x1 ≤ len ∧ (97 ≤ chr t len x ∧ chr t len x ≤ 122 → x < x1) ∧ q_X6_step_L98 K k f h = k (zput h K 3 (x1 : Int)) ∧ q_X8_next_L64 M k8 f8 g = k8 (zput g M 10 (x1 : Int)) := by
  intro r
  induction r with
  | zero =>
    intro x f f8 h g q1 q2 q3 hc h3 hr g10
    obtain ⟨f', rfl⟩ : ∃ f', f = f' + 1 := ⟨f - 1, by omega⟩
    obtain ⟨f8', rfl⟩ : ∃ f', f8 = f' + 1 := ⟨f8 - 1, by omega⟩
    have hh := e8_here hb hr g10
    rw [chr_out (by omega)] at hh
    refine ⟨x, Nat.le_refl _, by omega, fun z => ?_, ?_, ?_⟩
    · rw [chr_out (by omega)] at z
      omega
    · rw [zput_same h3, q_X6_step_L98, hc.1, h3, if_pos (by omega)]
    · rw [zput_same g10, q_X8_next_L64, hh, zbp_some, e8_let, zbp_some, if_pos (by decide)]
  | succ r ih =>
    intro x f f8 h g q1 q2 q3 hc h3 hr g10
    obtain ⟨f', rfl⟩ : ∃ f', f = f' + 1 := ⟨f - 1, by omega⟩
    obtain ⟨f8', rfl⟩ : ∃ f', f8 = f' + 1 := ⟨f8 - 1, by omega⟩
    have hxl : x < len := by omega
    have h1000 := hb.1
    have hh := e8_here hb hr g10
    have hs := e6_sign hb hc x
    have hnl : ¬ (len : Int) ≤ (x : Int) := by omega
    have hx6 : x < 1000000 := by omega
    rw [q_X6_step_L98, hc.1, h3, if_neg hnl, hs, zbp_some, e6_let, zbp_some, q_X8_next_L64, hh, zbp_some, e8_let, zbp_some]
    simp only [zlet_b]
    rw [g10, zw_s hx6]
    by_cases a : 97 ≤ chr t len x ∧ chr t len x ≤ 122
    · obtain ⟨x1, p1, p2, _, p3, p4⟩ := ih (x + 1) f' f8' (zput h K 3 ((x + 1 : Nat) : Int)) (zput g M 10 ((x + 1 : Nat) : Int)) (by omega) (by omega) (by omega) (hc.put (by decide)) zput_self (hr.put (by decide)) zput_self
      rw [if_pos a, if_neg one0, if_neg one0]
      exact ⟨x1, by omega, p2, fun _ => by omega, by rw [p3, zput_put], by rw [p4, zput_put]⟩
    · rw [if_neg a, if_pos rfl, if_pos rfl]
      exact ⟨x, Nat.le_refl _, by omega, fun z => absurd z a, by rw [zput_same h3], by rw [zput_same g10]⟩
/-- the same value, or both above all ranges -/
def Vr (a b : Int) : Prop := (a = b ∧ 0 ≤ a ∧ a ≤ 100000) ∨ ((100000 < a ∧ a ≤ 1000000) ∧ 100000 < b ∧ b ≤ 1000009)
theorem m_digs (hb : Tb t len) {k : zH → Option (Unit × zH)} {k8 : zH → Option (Unit × zH)} : ∀ (r x f f8 : Nat) (h g : zH) (vc vr : Int), x + r = len → r < f → r < f8 → TxC K t len h → TxR M t len g → Vr vc vr →
    ∃ x1 vc' vr', x ≤ x1 ∧ x1 ≤ len ∧ Vr vc' vr' ∧ (48 ≤ chr t len x ∧ chr t len x ≤ 57 → x < x1) ∧ q_X6_step_L153 K k f (z2 h K 6 3 vc (x : Int)) = k (z2 h K 6 3 vc' (x1 : Int)) ∧ q_X8_next_L120 M k8 f8 (z2 g M 13 10 vr (x : Int)) = k8 (z2 g M 13 10 vr' (x1 : Int)) := by
  intro r
  induction r with
  | zero =>
    intro x f f8 h g vc vr q1 q2 q3 hc hr hv
    obtain ⟨f', rfl⟩ : ∃ f', f = f' + 1 := ⟨f - 1, by omega⟩
    obtain ⟨f8', rfl⟩ : ∃ f', f8 = f' + 1 := ⟨f8 - 1, by omega⟩
    have hr' : TxR M t len (z2 g M 13 10 vr (x : Int)) := (hr.put (by decide)).put (by decide)
    have hc' : TxC K t len (z2 h K 6 3 vc (x : Int)) := (hc.put (by decide)).put (by decide)
    have hh := e8_here hb hr' z2_y
    rw [chr_out (by omega)] at hh
    refine ⟨x, vc, vr, Nat.le_refl _, by omega, hv, fun z => ?_, ?_, ?_⟩
    · rw [chr_out (by omega)] at z
      omega
    · rw [q_X6_step_L153, hc'.1, z2_y, if_pos (by omega)]
    · rw [q_X8_next_L120, hh, zbp_some, e8_dig, zbp_some, if_pos (by decide)]
  | succ r ih =>
    intro x f f8 h g vc vr q1 q2 q3 hc hr hv
    obtain ⟨f', rfl⟩ : ∃ f', f = f' + 1 := ⟨f - 1, by omega⟩
    obtain ⟨f8', rfl⟩ : ∃ f', f8 = f' + 1 := ⟨f8 - 1, by omega⟩
    have hxl : x < len := by omega
    have h1000 := hb.1
    have hr' : TxR M t len (z2 g M 13 10 vr (x : Int)) := (hr.put (by decide)).put (by decide)
    have hc' : TxC K t len (z2 h K 6 3 vc (x : Int)) := (hc.put (by decide)).put (by decide)
    have hh := e8_here hb hr' z2_y
    have hs := e6_sign hb hc' x
    have hnl : ¬ (len : Int) ≤ (x : Int) := by omega
    have hx6 : x < 1000000 := by omega
    have e6 : (z2 h K 6 3 vc (x : Int)).1 K 6 = vc := z2_x (by decide)
    have e13 : (z2 g M 13 10 vr (x : Int)).1 M 13 = vr := z2_x (by decide)
    have e10 : (z2 g M 13 10 vr (x : Int)).1 M 10 = (x : Int) := z2_y
    have e3 : (z2 h K 6 3 vc (x : Int)).1 K 3 = (x : Int) := z2_y
    rw [q_X6_step_L153, hc'.1, e3, if_neg hnl, hs, zbp_some, e6_dig, zbp_some, q_X8_next_L120, hh]
    simp only [zlet_b, zbp_some]
    rw [e8_dig, zbp_some, e6, e13]
    by_cases a : 48 ≤ chr t len x ∧ chr t len x ≤ 57
    · rw [if_pos a, if_neg one0, if_neg one0]
      generalize chr t len x = c at a
      have p3 : (zput (z2 h K 6 3 vc (x : Int)) K 6 (zmin 1000000 (zw (zw (zw (10 * vc) + c) - 48)))).1 K 3 = (x : Int) := by rw [zput_ne (by omega), e3]
      have pr : ∀ y : Int, (zput (z2 g M 13 10 vr (x : Int)) M 13 y).1 M 10 = (x : Int) := fun y => by rw [zput_ne (by omega), e10]
      rw [p3, pr, pr, zw_s hx6]
      have fc : ∀ y : Int, zput (zput (z2 h K 6 3 vc (x : Int)) K 6 y) K 3 ((x + 1 : Nat) : Int) = z2 h K 6 3 y ((x + 1 : Nat) : Int) := fun y => z2_z2 (by decide)
      have fr : ∀ y : Int, zput (zput (z2 g M 13 10 vr (x : Int)) M 13 y) M 10 ((x + 1 : Nat) : Int) = z2 g M 13 10 y ((x + 1 : Nat) : Int) := fun y => z2_z2 (by decide)
      rw [fc, fr, fr]
      have hvb : 0 ≤ vc ∧ vc ≤ 1000000 ∧ 0 ≤ vr ∧ vr ≤ 1000009 := by
        rcases hv with z | z <;> omega
      have w1 : zw (10 * vc) = 10 * vc := zw_id ⟨by omega, by omega⟩
      have w2 : zw (10 * vc + c) = 10 * vc + c := by clear w1; exact zw_id ⟨by omega, by omega⟩
      have w3 : zw (10 * vc + c - 48) = 10 * vc + c - 48 := by clear w1 w2; exact zw_id ⟨by omega, by omega⟩
      have u1 : zw (10 * vr) = 10 * vr := by clear w1 w2 w3; exact zw_id ⟨by omega, by omega⟩
      have u2 : zw (10 * vr + c) = 10 * vr + c := by clear w1 w2 w3 u1; exact zw_id ⟨by omega, by omega⟩
      have u3 : zw (10 * vr + c - 48) = 10 * vr + c - 48 := by clear w1 w2 w3 u1 u2; exact zw_id ⟨by omega, by omega⟩
      rw [w1, w2, w3, u1, u2, u3]
      clear w1 w2 w3 u1 u2 u3
      by_cases hle : vr ≤ 100000
      · rw [if_pos hle]
        have hv' : Vr (zmin 1000000 (10 * vc + c - 48)) (10 * vr + c - 48) := by
          unfold Vr at hv ⊢
          unfold zmin
          split <;> omega
        obtain ⟨x1, vc', vr', o1, o2, o3, _, o4, o5⟩ := ih (x + 1) f' f8' h g _ _ (by omega) (by omega) (by omega) hc hr hv'
        exact ⟨x1, vc', vr', by omega, o2, o3, fun _ => by omega, o4, o5⟩
      · rw [if_neg hle]
        have hv' : Vr (zmin 1000000 (10 * vc + c - 48)) vr := by
          unfold Vr at hv ⊢
          unfold zmin
          split <;> omega
        obtain ⟨x1, vc', vr', o1, o2, o3, _, o4, o5⟩ := ih (x + 1) f' f8' h g _ _ (by omega) (by omega) (by omega) hc hr hv'
        exact ⟨x1, vc', vr', by omega, o2, o3, fun _ => by omega, o4, o5⟩
    · rw [if_neg a, if_pos rfl, if_pos rfl]
      exact ⟨x, vc, vr, Nat.le_refl _, by omega, hv, fun z => absurd z a, rfl, rfl⟩
end TK
