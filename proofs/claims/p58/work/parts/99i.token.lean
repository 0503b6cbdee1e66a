/-! Reading a known text: a token. -/
def isLt (c : Int) : Prop := 97 ≤ c ∧ c ≤ 122
def isDg (c : Int) : Prop := 48 ≤ c ∧ c ≤ 57
section TK
variable {K : Nat} {t : Nat → Int} {len : Nat} {h : zH}
theorem q_L0_stop (hb : Tb t len) (hc : TxC K t len h) {k : zH → Option (Unit × zH)} {f x : Nat} (h3 : h.1 K 3 = (x : Int)) (hx : x < len → t x ≠ 32 ∧ t x ≠ 10) : q_X6_step_L0 K k (f + 1) h = k h := by
  rw [q_X6_step_L0, h3, hc.1]
  by_cases q : x < len
  · obtain ⟨a, b⟩ := hx q
    rw [if_neg (by omega), e6_sign hb hc, zbp_some, chr_in q, if_neg a, zbp_some, if_neg b]
  · rw [if_pos (by omega)]
theorem q_L0_one (hb : Tb t len) (hc : TxC K t len h) {k : zH → Option (Unit × zH)} {f x : Nat} (h3 : h.1 K 3 = (x : Int)) (hx : x < len) (hs : t x = 32) : q_X6_step_L0 K k (f + 1) h = q_X6_step_L0 K k f (zput h K 3 ((x + 1 : Nat) : Int)) := by
  have h1000 := hb.1
  rw [q_X6_step_L0, h3, hc.1, if_neg (by omega), e6_sign hb hc, zbp_some, chr_in hx, if_pos hs, zw_s (by omega)]
  simp only [zlet_b]
theorem q_L98_run (hb : Tb t len) {k : zH → Option (Unit × zH)} {b : Nat} (hbl : b ≤ len) (he : b < len → ¬ isLt (t b)) : ∀ (r p f : Nat) (h : zH), TxC K t len h → p + r = b → r < f → h.1 K 3 = (p : Int) → (∀ i, p ≤ i → i < b → isLt (t i)) → q_X6_step_L98 K k f h = k (zput h K 3 (b : Int)) := by
  have h1000 := hb.1
  intro r
  induction r with
  | zero =>
    intro p f h hc e1 e2 h3 hl
    obtain ⟨f', rfl⟩ : ∃ f', f = f' + 1 := ⟨f - 1, by omega⟩
    have e : p = b := by omega
    subst e
    rw [zput_same h3, q_X6_step_L98, h3, hc.1]
    by_cases q : p < len
    · have hn : ¬ (97 ≤ t p ∧ t p ≤ 122) := he q
      rw [if_neg (by omega), e6_sign hb hc, zbp_some, chr_in q, e6_let, if_neg hn, zbp_some, if_pos rfl]
    · rw [if_pos (by omega)]
  | succ r ih =>
    intro p f h hc e1 e2 h3 hl
    obtain ⟨f', rfl⟩ : ∃ f', f = f' + 1 := ⟨f - 1, by omega⟩
    have hp : p < len := by omega
    have hlp : 97 ≤ t p ∧ t p ≤ 122 := hl p (Nat.le_refl _) (by omega)
    have hn := ih (p + 1) f' (zput h K 3 ((p + 1 : Nat) : Int)) (hc.put (by decide)) (by omega) (by omega) zput_self (fun i z1 z2 => hl i (by omega) z2)
    rw [zput_put] at hn
    rw [q_X6_step_L98, h3, hc.1, if_neg (by omega), e6_sign hb hc, zbp_some, chr_in hp, e6_let, if_pos hlp, zbp_some, if_neg one0, zw_s (by omega)]
    simp only [zlet_b]
    exact hn
/-- the value of i digits from a on -/
def dgv (t : Nat → Int) (a : Nat) : Nat → Int
  | 0 => 0
  | i + 1 => 10 * dgv t a i + t (a + i) - 48
theorem dgv_b (t : Nat → Int) (a : Nat) : ∀ i, (∀ j, j < i → isDg (t (a + j))) → 0 ≤ dgv t a i ∧ dgv t a i < ((10 ^ i : Nat) : Int) := by
  intro i
  induction i with
  | zero => intro _; exact ⟨Int.le_refl _, (by decide : (0 : Int) < ((10 ^ 0 : Nat) : Int))⟩
  | succ i ih =>
    intro hd
    obtain ⟨a1, a2⟩ := ih (fun j hj => hd j (by omega))
    have hi : 48 ≤ t (a + i) ∧ t (a + i) ≤ 57 := hd i (by omega)
    have e : 10 ^ (i + 1) = 10 * 10 ^ i := by rw [Nat.pow_succ, Nat.mul_comm]
    show 0 ≤ 10 * dgv t a i + t (a + i) - 48 ∧ 10 * dgv t a i + t (a + i) - 48 < _
    rw [e]
    omega
theorem q_L153_run (hb : Tb t len) {k : zH → Option (Unit × zH)} {a n : Nat} (hn4 : n ≤ 4) (hbl : a + n ≤ len) (he : a + n < len → ¬ isDg (t (a + n))) (hl : ∀ i, i < n → isDg (t (a + i))) : ∀ (r i f : Nat) (h : zH), TxC K t len h → i + r = n → r < f → h.1 K 3 = ((a + i : Nat) : Int) → h.1 K 6 = dgv t a i → q_X6_step_L153 K k f h = k (z2 h K 6 3 (dgv t a n) ((a + n : Nat) : Int)) := by
  have h1000 := hb.1
  intro r
  induction r with
  | zero =>
    intro i f h hc e1 e2 h3 h6
    obtain ⟨f', rfl⟩ : ∃ f', f = f' + 1 := ⟨f - 1, by omega⟩
    have e : i = n := by omega
    subst e
    have ez : z2 h K 6 3 (dgv t a i) ((a + i : Nat) : Int) = h := by
      unfold z2
      rw [zput_same h6, zput_same h3]
    rw [ez, q_X6_step_L153, h3, hc.1]
    by_cases q : a + i < len
    · have hn : ¬ (48 ≤ t (a + i) ∧ t (a + i) ≤ 57) := he q
      rw [if_neg (by omega), e6_sign hb hc, zbp_some, chr_in q, e6_dig, if_neg hn, zbp_some, if_pos rfl]
    · rw [if_pos (by omega)]
  | succ r ih =>
    intro i f h hc e1 e2 h3 h6
    obtain ⟨f', rfl⟩ : ∃ f', f = f' + 1 := ⟨f - 1, by omega⟩
    have hp : a + i < len := by omega
    have hlp : 48 ≤ t (a + i) ∧ t (a + i) ≤ 57 := hl i (by omega)
    obtain ⟨b1, b2⟩ := dgv_b t a i (fun j hj => hl j (by omega))
    have hpw : 10 ^ i ≤ 10 ^ 4 := Nat.pow_le_pow_right (by decide) (by omega)
    have hb3 : dgv t a i < 10000 := by
      have : (10 : Nat) ^ 4 = 10000 := by decide
      omega
    have hv : zmin 1000000 (zw (zw (zw (10 * dgv t a i) + t (a + i)) - 48)) = dgv t a (i + 1) := by
      rw [zw_id (x := 10 * dgv t a i) ⟨by omega, by omega⟩, zw_id (x := 10 * dgv t a i + t (a + i)) ⟨by omega, by omega⟩, zw_id (x := 10 * dgv t a i + t (a + i) - 48) ⟨by omega, by omega⟩]
      unfold zmin
      rw [if_pos (by omega)]
      rfl
    have hn := ih (i + 1) f' (z2 h K 6 3 (dgv t a (i + 1)) ((a + (i + 1) : Nat) : Int)) ((hc.put (by decide)).put (by decide)) (by omega) (by omega) z2_y (z2_x (by decide))
    rw [z2_z2 (by decide)] at hn
    have e63 : (zput h K 6 (dgv t a (i + 1))).1 K 3 = ((a + i : Nat) : Int) := by rw [zput_ne (by omega)]; exact h3
    rw [q_X6_step_L153, h3, hc.1, if_neg (by omega), e6_sign hb hc, zbp_some, chr_in hp, e6_dig, if_pos hlp, zbp_some, if_neg one0, zbp_some, h6]
    simp only [zlet_b]
    rw [hv, e63, zw_s (by omega)]
    exact hn
/-- the next token, by places: it begins at a, ends at b, is of kind κ (0 the end, 1 a word, 2 a number, 3 and 4 signs) -/
def TkP (t : Nat → Int) (len a b : Nat) (κ : Nat) : Prop := a ≤ b ∧ b ≤ len ∧ (a < len → t a ≠ 32 ∧ t a ≠ 10) ∧ ((κ = 0 ∧ a = len) ∨ (κ = 1 ∧ a < b ∧ (∀ i, a ≤ i → i < b → isLt (t i)) ∧ (b < len → ¬ isLt (t b))) ∨ (κ = 2 ∧ a < b ∧ b ≤ a + 4 ∧ (∀ i, i < b - a → isDg (t (a + i))) ∧ (b < len → ¬ isDg (t b))) ∨ (κ = 3 ∧ b = a + 1 ∧ t a = 59) ∨ (κ = 4 ∧ b = a + 1 ∧ t a = 45))
theorem e6_step (hb : Tb t len) (hc : TxC K t len h) {x a b κ : Nat} (h3 : h.1 K 3 = (x : Int)) (ha : a = x ∨ (a = x + 1 ∧ x < len ∧ t x = 32)) (T : TkP t len a b κ) : ∃ h', q_X6_step h K = some ((), h') ∧ h'.2 = h.2 ∧ TxC K t len h' ∧ h'.1 K 5 = (a : Int) ∧ h'.1 K 3 = (b : Int) ∧ h'.1 K 4 = (κ : Int) ∧ (κ = 2 → h'.1 K 6 = dgv t a (b - a)) ∧ ∀ q j, ¬ (q = K ∧ 3 ≤ j ∧ j ≤ 6) → h'.1 q j = h.1 q j := by
  have h1000 := hb.1
  obtain ⟨t1, t2, t3, t4⟩ := T
  have hal : a ≤ len := by omega
  -- the spaces
  have sp : ∀ k : zH → Option (Unit × zH), q_X6_step_L0 K k zF h = k (zput h K 3 (a : Int)) := by
    intro k
    have hf : zF = (zF - 2) + 1 + 1 := by unfold zF; rfl
    rw [hf]
    rcases ha with rfl | ⟨rfl, ha2, ha3⟩
    · rw [zput_same h3]
      exact q_L0_stop hb hc h3 t3
    · rw [q_L0_one hb hc h3 ha2 ha3]
      exact q_L0_stop hb (hc.put (by decide)) zput_self t3
  have e1 : (zput (zput h K 3 (a : Int)) K 5 ((zput h K 3 (a : Int)).1 K 3)) = zput (zput h K 3 (a : Int)) K 5 (a : Int) := by rw [zput_self]
  generalize hg : zput (zput h K 3 (a : Int)) K 5 (a : Int) = g at e1
  have gc : TxC K t len g := by rw [← hg]; exact (hc.put (by decide)).put (by decide)
  have g5 : g.1 K 5 = (a : Int) := by rw [← hg]; exact zput_self
  have g3 : g.1 K 3 = (a : Int) := by rw [← hg, zput_ne (by omega)]; exact zput_self
  have gr : g.2 = h.2 := by rw [← hg]; rfl
  have gf : ∀ q j, ¬ (q = K ∧ 3 ≤ j ∧ j ≤ 6) → g.1 q j = h.1 q j := fun q j hq => by rw [← hg, zput_ne (by omega), zput_ne (by omega)]
  unfold q_X6_step
  rw [sp]
  simp only [zlet_b]
  rw [e1, g5, gc.1, e6_sign hb gc, zbp_some]
  clear e1 hg
  by_cases qa : a < len
  · rw [if_pos (by omega), chr_in qa, e6_let, zbp_some, e6_dig]
    have hta := t3 qa
    rcases t4 with ⟨rfl, z⟩ | ⟨rfl, z1, z2, z3⟩ | ⟨rfl, z1, z2, z3, z4⟩ | ⟨rfl, z1, z2⟩ | ⟨rfl, z1, z2⟩
    · exfalso; omega
    · have hlt : 97 ≤ t a ∧ t a ≤ 122 := z2 a (Nat.le_refl _) z1
      rw [if_pos hlt, if_neg one0]
      rw [q_L98_run (b := b) hb t2 z3 (b - a) a zF _ (gc.put (by decide)) (by omega) (by unfold zF; omega) (by rw [zput_ne (by omega)]; exact g3) z2]
      refine ⟨_, rfl, gr, (gc.put (by decide)).put (by decide), by rw [zput_ne (by omega), zput_ne (by omega)]; exact g5, zput_self, by rw [zput_ne (by omega)]; exact zput_self, fun e => absurd e (by decide), fun q j hq => by rw [zput_ne (by omega), zput_ne (by omega)]; exact gf q j hq⟩
    · have hdg : 48 ≤ t a ∧ t a ≤ 57 := by have := z3 0 (by omega); exact this
      have hnl : ¬ (97 ≤ t a ∧ t a ≤ 122) := by omega
      rw [if_neg hnl, if_pos rfl, if_pos hdg, zbp_some, if_neg one0]
      have hk := q_L153_run (K := K) (k := fun h24 => some ((), h24)) hb (a := a) (n := b - a) (by omega) (by omega) (fun q => by rw [show a + (b - a) = b by omega] at q ⊢; exact z4 q) z3 (b - a) 0 zF (zput (zput g K 4 2) K 6 0) ((gc.put (by decide)).put (by decide)) (by omega) (by unfold zF; omega) (by rw [zput_ne (by omega), zput_ne (by omega)]; exact g3) zput_self
      rw [hk]
      refine ⟨_, rfl, gr, (((gc.put (by decide)).put (by decide)).put (by decide)).put (by decide), ?_, ?_, ?_, fun _ => z2_x (by decide), fun q j hq => ?_⟩
      · rw [z2_ne (by omega), zput_ne (by omega), zput_ne (by omega)]; exact g5
      · rw [z2_y]; exact congrArg _ (by omega)
      · rw [z2_ne (by omega), zput_ne (by omega)]; exact zput_self
      · rw [z2_ne (by omega), zput_ne (by omega), zput_ne (by omega)]; exact gf q j hq
    · have n1 : ¬ (97 ≤ t a ∧ t a ≤ 122) := by omega
      have n2 : ¬ (48 ≤ t a ∧ t a ≤ 57) := by omega
      rw [if_neg n1, if_pos rfl, if_neg n2, zbp_some, if_pos rfl, if_pos z2]
      have w : zw ((zput g K 4 3).1 K 3 + 1) = (b : Int) := by rw [zput_ne (by omega), g3, zw_s (by omega), z1]
      rw [w]
      refine ⟨_, rfl, gr, (gc.put (by decide)).put (by decide), by rw [zput_ne (by omega), zput_ne (by omega)]; exact g5, zput_self, by rw [zput_ne (by omega)]; exact zput_self, fun e => absurd e (by decide), fun q j hq => by rw [zput_ne (by omega), zput_ne (by omega)]; exact gf q j hq⟩
    · have n1 : ¬ (97 ≤ t a ∧ t a ≤ 122) := by omega
      have n2 : ¬ (48 ≤ t a ∧ t a ≤ 57) := by omega
      have n3 : ¬ t a = 59 := by omega
      rw [if_neg n1, if_pos rfl, if_neg n2, zbp_some, if_pos rfl, if_neg n3, if_pos z2]
      have w : zw ((zput g K 4 4).1 K 3 + 1) = (b : Int) := by rw [zput_ne (by omega), g3, zw_s (by omega), z1]
      rw [w]
      refine ⟨_, rfl, gr, (gc.put (by decide)).put (by decide), by rw [zput_ne (by omega), zput_ne (by omega)]; exact g5, zput_self, by rw [zput_ne (by omega)]; exact zput_self, fun e => absurd e (by decide), fun q j hq => by rw [zput_ne (by omega), zput_ne (by omega)]; exact gf q j hq⟩
  · rw [if_neg (by omega)]
    have eκ : κ = 0 := by
      rcases t4 with ⟨e, _⟩ | ⟨_, z1, _⟩ | ⟨_, z1, _⟩ | ⟨_, z1, _⟩ | ⟨_, z1, _⟩
      · exact e
      all_goals exfalso; omega
    subst eκ
    have eb : b = a := by omega
    refine ⟨_, rfl, gr, gc.put (by decide), by rw [zput_ne (by omega)]; exact g5, by rw [zput_ne (by omega), eb]; exact g3, zput_self, fun e => absurd e (by decide), fun q j hq => by rw [zput_ne (by omega)]; exact gf q j hq⟩
end TK
