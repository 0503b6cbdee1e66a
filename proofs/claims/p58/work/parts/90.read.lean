/-! What whole's parts 88 89a 89b 89c 89d 89e 89f 89g 89h 89i 89j 89k 89l 89m 89n 89o 89p 89q 89r say of the class alone. -/
theorem zand_b (y : Int) : zand (zi2b y) 255 = zand y 255 := by
  unfold zand zi2b
  rw [zi_of]
  have e : ((zi y).toInt8.toInt32 &&& zi 255) = (zi y &&& zi 255) := by
    apply Int32.toBitVec_inj.mp
    rw [Int32.toBitVec_and, Int32.toBitVec_and, Int8.toBitVec_toInt32, Int32.toBitVec_toInt8]
    have e255 : (zi 255).toBitVec = 255#32 := by decide
    rw [e255]
    refine BitVec.eq_of_getLsbD_eq (fun i hi => ?_)
    rw [BitVec.getLsbD_and, BitVec.getLsbD_and]
    by_cases h : i < 8
    · rw [BitVec.getLsbD_signExtend, BitVec.getLsbD_signExtend]
      simp [h, hi]
    · have z : ∀ i, i < 32 → ¬ i < 8 → (255#32).getLsbD i = false := by decide
      rw [z i hi h, Bool.and_false, Bool.and_false]
  rw [e]
theorem m_word {K : Nat} {w : Int} {n0 : Nat} (hn : n0 + 4 ≤ 1000) : ∀ (r i f : Nat) (h : zH), i + r = 4 → r < f → h.2 K 1 = K + 1 → h.1 K 0 = ((n0 + i : Nat) : Int) →
    ∃ h', q_X6_appendWord_L3 K w (fun _ h5 => some ((), h5)) f (24 - 8 * (i : Int)) h = some ((), h') ∧ h'.2 = h.2 ∧ h'.1 K 0 = ((n0 + 4 : Nat) : Int) ∧ (∀ j, i ≤ j → j < 4 → h'.1 (K + 1) (n0 + j) = zi2b (zshr w (24 - 8 * (j : Int)))) ∧ ∀ q j, ¬ (q = K ∧ j = 0) → ¬ (q = K + 1 ∧ n0 + i ≤ j ∧ j < n0 + 4) → h'.1 q j = h.1 q j := by
  intro r
  induction r with
  | zero =>
    intro i f h q1 q2 h1 h0
    obtain ⟨f', rfl⟩ : ∃ f', f = f' + 1 := ⟨f - 1, by omega⟩
    have e : i = 4 := by omega
    subst e
    refine ⟨h, ?_, rfl, h0, fun j z1 z2 => by omega, fun _ _ _ _ => rfl⟩
    rw [q_X6_appendWord_L3, if_pos (by omega)]
  | succ r ih =>
    intro i f h q1 q2 h1 h0
    obtain ⟨f', rfl⟩ : ∃ f', f = f' + 1 := ⟨f - 1, by omega⟩
    have hlt : n0 + i < 1000 := by omega
    have wz : zw (((n0 + i : Nat) : Int) + 1) = ((n0 + (i + 1) : Nat) : Int) := by rw [zw_s (by omega)]; rfl
    have w8 : zw (24 - 8 * (i : Int) + (-8)) = 24 - 8 * ((i + 1 : Nat) : Int) := by clear wz; rw [zw_id ⟨by omega, by omega⟩]; omega
    have hp : (zput h (K + 1) (n0 + i) (zi2b (zshr w (24 - 8 * (i : Int))))).1 K 0 = ((n0 + i : Nat) : Int) := by rw [zput_ne (by clear wz w8; omega), h0]
    obtain ⟨h', p1, p2, p3, p4, p5⟩ := ih (i + 1) f' (zput (zput h (K + 1) (n0 + i) (zi2b (zshr w (24 - 8 * (i : Int))))) K 0 ((n0 + (i + 1) : Nat) : Int)) (by clear wz w8; omega) (by clear wz w8; omega) h1 zput_self
    refine ⟨h', ?_, p2, p3, fun j z1 z2 => ?_, fun q j z1 z2 => ?_⟩
    · rw [q_X6_appendWord_L3, if_neg (by clear wz w8; omega), h0, if_neg (by clear wz w8; omega), zgpos hlt, Int.toNat_natCast, h1]
      simp only [zlet_b]
      rw [hp, wz, w8]
      exact p1
    · by_cases e : j = i
      · subst e
        rw [p5 _ _ (by clear wz w8; omega) (by clear wz w8; omega), zput_ne (by clear wz w8; omega), zput_self]
      · exact p4 j (by clear wz w8; omega) z2
    · rw [p5 q j z1 (by clear wz w8; omega), zput_ne z1, zput_ne (by clear wz w8; omega)]
theorem e6_word {h : zH} {K : Nat} {w : Int} {n0 : Nat} (hn : n0 + 4 ≤ 1000) (h1 : h.2 K 1 = K + 1) (h0 : h.1 K 0 = (n0 : Int)) : ∃ h', q_X6_appendWord h K w = some ((), h') ∧ h'.2 = h.2 ∧ h'.1 K 0 = ((n0 + 4 : Nat) : Int) ∧ (∀ j, j < 4 → h'.1 (K + 1) (n0 + j) = zi2b (zshr w (24 - 8 * (j : Int)))) ∧ ∀ q j, ¬ (q = K ∧ j = 0) → ¬ (q = K + 1 ∧ n0 ≤ j ∧ j < n0 + 4) → h'.1 q j = h.1 q j := by
  obtain ⟨h', p1, p2, p3, p4, p5⟩ := m_word (K := K) (w := w) hn 4 0 zF h (by omega) (by unfold zF; omega) h1 h0
  exact ⟨h', p1, p2, p3, fun j hj => p4 j (Nat.zero_le _) hj, p5⟩
/-- which word a byte is of -/
def fdw (a1 a2 a3 a4 a5 : Int) (i : Nat) : Int := if 4 ≤ i then (if 8 ≤ i then (if 12 ≤ i then (if 16 ≤ i then a5 else a4) else a3) else a2) else a1
section OPS
variable {B : Nat}
end OPS
theorem zput_same {h : zH} {a j : Nat} {x : Int} (e : h.1 a j = x) : zput h a j x = h := by
  refine Prod.ext ?_ rfl
  funext b i
  by_cases q : b = a ∧ i = j
  · rw [zput_1, if_pos q, q.1, q.2, e]
  · rw [zput_ne q]
/-- two cells of one object -/
def z2 (h : zH) (a i j : Nat) (x y : Int) : zH := zput (zput h a i x) a j y
theorem z2_z2 {h : zH} {a i j : Nat} {x y x' y' : Int} (hij : i ≠ j) : z2 (z2 h a i j x y) a i j x' y' = z2 h a i j x' y' := by
  unfold z2
  refine Prod.ext ?_ rfl
  funext q l
  by_cases e1 : q = a ∧ l = j
  · rw [zput_1, if_pos e1, zput_1, if_pos e1]
  · rw [zput_ne e1, zput_ne e1]
    by_cases e2 : q = a ∧ l = i
    · rw [zput_1, if_pos e2, zput_1, if_pos e2]
    · rw [zput_ne e2, zput_ne e1, zput_ne e2, zput_ne e2]
theorem z2_x {h : zH} {a i j : Nat} {x y : Int} (hij : i ≠ j) : (z2 h a i j x y).1 a i = x := by unfold z2; rw [zput_ne (fun z => hij z.2), zput_self]
theorem z2_y {h : zH} {a i j : Nat} {x y : Int} : (z2 h a i j x y).1 a j = y := by unfold z2; rw [zput_self]
theorem z2_ne {h : zH} {a i j q l : Nat} {x y : Int} (hn : ¬ (q = a ∧ (l = i ∨ l = j))) : (z2 h a i j x y).1 q l = h.1 q l := by
  unfold z2
  rw [zput_ne (fun z => hn ⟨z.1, Or.inr z.2⟩), zput_ne (fun z => hn ⟨z.1, Or.inl z.2⟩)]
theorem zand_255 (y : Int) : 0 ≤ zand y 255 ∧ zand y 255 ≤ 255 := by
  unfold zand
  have e : (zi y &&& zi 255).toBitVec.toNat = (zi y).toBitVec.toNat &&& 255 := by
    rw [Int32.toBitVec_and, BitVec.toNat_and]
    rfl
  have hle : (zi y).toBitVec.toNat &&& 255 ≤ 255 := Nat.and_le_right
  rw [bv_int (by rw [e]; omega), e]
  omega
def chr (t : Nat → Int) (len x : Nat) : Int := if x < len then t x else -1
def Tb (t : Nat → Int) (len : Nat) : Prop := len ≤ 1000 ∧ ∀ i, i < len → 0 ≤ t i ∧ t i ≤ 255
def TxC (K : Nat) (t : Nat → Int) (len : Nat) (h : zH) : Prop := h.1 K 2 = (len : Int) ∧ h.2 K 1 = K + 1 ∧ ∀ i, i < len → zand (h.1 (K + 1) i) 255 = t i
def TxR (M : Nat) (t : Nat → Int) (len : Nat) (g : zH) : Prop := g.1 M 9 = (len : Int) ∧ g.2 M 1 = M + 1 ∧ ∀ i, i < len → g.1 (M + 1) i = t i
theorem TxC.put {K : Nat} {t : Nat → Int} {len : Nat} {h : zH} (hc : TxC K t len h) {j : Nat} {x : Int} (hj : j ≠ 2) : TxC K t len (zput h K j x) := ⟨by rw [zput_ne (by omega)]; exact hc.1, hc.2.1, fun i hi => by rw [zput_ne (by omega)]; exact hc.2.2 i hi⟩
theorem TxR.put {M : Nat} {t : Nat → Int} {len : Nat} {g : zH} (hc : TxR M t len g) {j : Nat} {x : Int} (hj : j ≠ 9) : TxR M t len (zput g M j x) := ⟨by rw [zput_ne (by omega)]; exact hc.1, hc.2.1, fun i hi => by rw [zput_ne (by omega)]; exact hc.2.2 i hi⟩
section TK
variable {K M : Nat} {t : Nat → Int} {len : Nat} {h g : zH}
theorem e6_sign (hb : Tb t len) (hc : TxC K t len h) (x : Nat) : q_X6_signAt h K (x : Int) = some (chr t len x) := by
  unfold q_X6_signAt chr
  rw [if_neg (by omega), hc.1]
  by_cases q : x < len
  · have h1 := hb.1
    rw [if_neg (by omega), if_neg (by omega), zgpos (by omega), if_pos q, Int.toNat_natCast, hc.2.1, hc.2.2 x q]
  · rw [if_pos (by omega), if_neg q]
theorem chr_in {x : Nat} (q : x < len) : chr t len x = t x := by unfold chr; rw [if_pos q]
theorem chr_out {x : Nat} (q : ¬ x < len) : chr t len x = -1 := by unfold chr; rw [if_neg q]
theorem e6_let {c : Int} : q_X6_isLetter h c = some (if 97 ≤ c ∧ c ≤ 122 then 1 else 0) := by
  unfold q_X6_isLetter
  by_cases a : c < 97
  · rw [if_pos a, if_neg (by omega)]
  · rw [if_neg a]
    by_cases b : 122 < c
    · rw [if_pos b, if_neg (by omega)]
    · rw [if_neg b, if_pos (by omega)]
theorem e6_dig {c : Int} : q_X6_isDigit h c = some (if 48 ≤ c ∧ c ≤ 57 then 1 else 0) := by
  unfold q_X6_isDigit
  by_cases a : c < 48
  · rw [if_pos a, if_neg (by omega)]
  · rw [if_neg a]
    by_cases b : 57 < c
    · rw [if_pos b, if_neg (by omega)]
    · rw [if_neg b, if_pos (by omega)]
/-- the same value, or both above all ranges -/
def Vr (a b : Int) : Prop := (a = b ∧ 0 ≤ a ∧ a ≤ 100000) ∨ ((100000 < a ∧ a ≤ 1000000) ∧ 100000 < b ∧ b ≤ 1000009)
end TK
def wch (n j : Nat) : Int := ((zsB.getD n []).getD j 0).toInt
def wln (n : Nat) : Nat := zsL.getD n 0
theorem wln_b : ∀ n, n < 12 → 3 ≤ wln n ∧ wln n ≤ 9 := by decide
theorem wdif : ∀ n, n < 12 → ∀ m, m < 12 → n ≠ m → wln n ≠ wln m ∨ ∃ j, j < 9 ∧ j < wln n ∧ wch n j ≠ wch m j := by decide
theorem e0_len {n : Nat} (hn : n < 16) : q_J0_length n = some (wln n : Int) := by
  unfold q_J0_length
  rw [if_pos hn]
  rfl
theorem e0_chr {n j : Nat} (hn : n < 16) (hj : j < wln n) : q_J0_charAt n (j : Int) = some (wch n j) := by
  unfold q_J0_charAt
  have h2 : (j : Int) < ((zsL.getD n 0 : Nat) : Int) := by
    show (j : Int) < ((wln n : Nat) : Int)
    omega
  rw [if_pos ⟨hn, by omega, h2⟩, Int.toNat_natCast]
  rfl
/-- the word from s to x is the format's n-th -/
def Mtb (t : Nat → Int) (s x n : Nat) : Bool := decide (x - s = wln n) && decide (∀ j, j < wln n → t (s + j) = wch n j)
theorem Mtb_iff {t : Nat → Int} {s x n : Nat} : Mtb t s x n = true ↔ (x - s = wln n ∧ ∀ j, j < wln n → t (s + j) = wch n j) := by
  unfold Mtb
  rw [Bool.and_eq_true, decide_eq_true_eq, decide_eq_true_eq]
def wdx (t : Nat → Int) (s x : Nat) : Int := match zfs (Mtb t s x) 12 0 with | none => -1 | some n => (n : Int)
theorem Mtb_one {t : Nat → Int} {s x n m : Nat} (hn : n < 12) (hm : m < 12) (h1 : Mtb t s x n = true) (h2 : Mtb t s x m = true) : n = m := by
  obtain ⟨a1, a2⟩ := Mtb_iff.mp h1
  obtain ⟨b1, b2⟩ := Mtb_iff.mp h2
  refine Classical.byContradiction fun z => ?_
  rcases wdif n hn m hm z with y | ⟨j, _, y1, y2⟩
  · omega
  · exact y2 ((a2 j y1).symm.trans (b2 j (by omega)))
theorem zfs_spec {P : Nat → Bool} : ∀ (m i : Nat), (zfs P m i = none ∧ ∀ k, i ≤ k → k < i + m → ¬ P k = true) ∨ ∃ k, zfs P m i = some k ∧ i ≤ k ∧ k < i + m ∧ P k = true := by
  intro m
  induction m with
  | zero => intro i; exact Or.inl ⟨rfl, fun k z1 z2 => by omega⟩
  | succ m ih =>
    intro i
    unfold zfs
    by_cases q : P i = true
    · rw [if_pos q]
      exact Or.inr ⟨i, rfl, Nat.le_refl _, by omega, q⟩
    · rw [if_neg q]
      rcases ih (i + 1) with ⟨z1, z2⟩ | ⟨k, z1, z2, z3, z4⟩
      · refine Or.inl ⟨z1, fun k y1 y2 => ?_⟩
        by_cases e : k = i
        · rw [e]; exact q
        · exact z2 k (by omega) (by omega)
      · exact Or.inr ⟨k, z1, by omega, by omega, z4⟩
theorem wdx_iff {t : Nat → Int} {s x n : Nat} (hn : n < 12) : Mtb t s x n = true ↔ wdx t s x = (n : Int) := by
  unfold wdx
  rcases zfs_spec (P := Mtb t s x) 12 0 with ⟨z1, z2⟩ | ⟨k, z1, z2, z3, z4⟩
  · rw [z1]
    constructor
    · intro y
      exact absurd y (z2 n (by omega) (by omega))
    · intro y
      have y' : (-1 : Int) = (n : Int) := y
      omega
  · rw [z1]
    constructor
    · intro y
      rw [Mtb_one hn (by omega) y z4]
    · intro y
      have y' : (k : Int) = (n : Int) := y
      have e : k = n := by omega
      rw [← e]
      exact z4
theorem wdx_b {t : Nat → Int} {s x : Nat} : wdx t s x = -1 ∨ ∃ n : Nat, n < 12 ∧ wdx t s x = (n : Int) := by
  unfold wdx
  rcases zfs_spec (P := Mtb t s x) 12 0 with ⟨z1, z2⟩ | ⟨k, z1, z2, z3, z4⟩
  · rw [z1]; exact Or.inl rfl
  · rw [z1]; exact Or.inr ⟨k, by omega, rfl⟩
section TK
variable {K M : Nat} {t : Nat → Int} {len : Nat} {h g : zH}
theorem e6_isWord (hb : Tb t len) (hc : TxC K t len h) {s x : Nat} (h5 : h.1 K 5 = (s : Int)) (h3 : h.1 K 3 = (x : Int)) (hsx : s ≤ x) (hx : x ≤ len) {n : Nat} (hn : n < 12) : q_X6_isWord h K n = some (if h.1 K 4 = 1 ∧ Mtb t s x n = true then 1 else 0) := by
  have hl := wln_b n hn
  have h1000 := hb.1
  unfold q_X6_isWord
  by_cases h4 : h.1 K 4 = 1
  · have wz : zw ((x : Int) - (s : Int)) = (x : Int) - (s : Int) := zw_id ⟨by omega, by omega⟩
    rw [if_pos h4, e0_len (by omega), zbp_some, h3, h5, wz]
    clear wz
    by_cases hd : (x : Int) - (s : Int) = (wln n : Int)
    · rw [if_pos hd]
      have key := zfind0 (L := fun f i => q_X6_isWord_L28 h K n (fun _ => some 1) f i) (N := wln n) (fun j => decide (t (s + j) ≠ wch n j)) (r := fun _ => some (0 : Int)) (kf := some (1 : Int)) (by omega) (fun f i hi => ?_) (fun f => ?_)
      · have key' : q_X6_isWord_L28 h K n (fun _ => some 1) zF 0 = _ := key
        rw [key']
        rcases zfs_spec (P := fun j => decide (t (s + j) ≠ wch n j)) (wln n) 0 with ⟨z1, z2⟩ | ⟨k, z1, z2, z3, z4⟩
        · have hM : Mtb t s x n = true := Mtb_iff.mpr ⟨by omega, fun j hj => by
            have := z2 j (by omega) (by omega)
            rw [zdec] at this
            exact Classical.not_not.mp this⟩
          rw [z1, if_pos ⟨h4, hM⟩]
        · have hM : ¬ (h.1 K 4 = 1 ∧ Mtb t s x n = true) := fun y => by
            rw [zdec] at z4
            exact z4 ((Mtb_iff.mp y.2).2 k (by omega))
          rw [z1, if_neg hM]
      · have hii : i < 1000000 := by omega
        have wsi : zw ((s : Int) + (i : Int)) = ((s + i : Nat) : Int) := zw_c (by omega)
        show q_X6_isWord_L28 h K n (fun _ => some 1) (f + 1) (i : Int) = _
        rw [q_X6_isWord_L28, e0_len (by omega), zbp_some, if_neg (by clear wsi; omega), h5, wsi, e6_sign hb hc, chr_in (by clear wsi; omega), zbp_some, e0_chr (by clear wsi; omega) hi, zbp_some]
        simp only [zlet_b, zdec]
        rw [zw_s hii]
        by_cases e : t (s + i) = wch n i
        · rw [if_pos e, if_neg (fun z => z e)]
        · rw [if_neg e, if_pos e]
      · show q_X6_isWord_L28 h K n (fun _ => some 1) (f + 1) (wln n : Int) = _
        rw [q_X6_isWord_L28, e0_len (by omega), zbp_some, if_pos (Int.le_refl _)]
    · have hM : ¬ (h.1 K 4 = 1 ∧ Mtb t s x n = true) := fun y => hd (by
        have := (Mtb_iff.mp y.2).1
        omega)
      rw [if_neg hd, if_neg hM]
  · rw [if_neg h4, if_neg (fun y => h4 y.1)]
end TK
def kr (κ : Nat) : Int := if κ = 0 then 4 else if κ = 1 then 0 else if κ = 2 then 1 else if κ = 3 then 2 else if κ = 4 then 3 else 5
theorem kr_i : ∀ κ, κ ≤ 5 → (kr κ = 1 ↔ κ = 2) ∧ (kr κ = 0 ↔ κ = 1) ∧ (kr κ = 2 ↔ κ = 3) ∧ (kr κ = 3 ↔ κ = 4) ∧ (kr κ = 4 ↔ κ = 0) := by decide
/-- the present token, from s to x, of kind κ -/
def Tok (K M : Nat) (t : Nat → Int) (len : Nat) (h g : zH) (s x κ : Nat) : Prop := (h.1 K 3 = (x : Int) ∧ h.1 K 4 = (κ : Int) ∧ h.1 K 5 = (s : Int)) ∧ (g.1 M 10 = (x : Int) ∧ g.1 M 11 = (s : Int) ∧ g.1 M 12 = kr κ) ∧ (s ≤ x ∧ x ≤ len) ∧ κ ≤ 5 ∧ (κ ≠ 0 → s < x) ∧ (κ = 1 → g.1 M 13 = wdx t s x) ∧ (κ = 2 → Vr (h.1 K 6) (g.1 M 13))
def FcS (K : Nat) (h h' : zH) : Prop := h'.2 = h.2 ∧ ∀ q j, ¬ (q = K ∧ 3 ≤ j ∧ j ≤ 6) → h'.1 q j = h.1 q j
def FrS (M : Nat) (g g' : zH) : Prop := g'.2 = g.2 ∧ ∀ q j, ¬ (q = M ∧ 10 ≤ j ∧ j ≤ 13) → g'.1 q j = g.1 q j
theorem FcS.rf {K : Nat} {h : zH} : FcS K h h := ⟨rfl, fun _ _ _ => rfl⟩
theorem FrS.rf {M : Nat} {g : zH} : FrS M g g := ⟨rfl, fun _ _ _ => rfl⟩
theorem FcS.put {K : Nat} {h h' : zH} (f : FcS K h h') {j : Nat} {x : Int} (hj : 3 ≤ j ∧ j ≤ 6) : FcS K h (zput h' K j x) := ⟨f.1, fun q i z => (zput_ne (fun y => z ⟨y.1, by omega⟩)).trans (f.2 q i z)⟩
theorem FrS.put {M : Nat} {g g' : zH} (f : FrS M g g') {j : Nat} {x : Int} (hj : 10 ≤ j ∧ j ≤ 13) : FrS M g (zput g' M j x) := ⟨f.1, fun q i z => (zput_ne (fun y => z ⟨y.1, by omega⟩)).trans (f.2 q i z)⟩
section OPS
variable {B : Nat} {t : Nat → Int} {len : Nat}
def FcP (B : Nat) (h h' : zH) : Prop := h'.2 = h.2 ∧ ∀ q j, ¬ (q = B + 497 ∧ (j = 2 ∨ j = 3)) → ¬ (q = B + 498 ∧ 3 ≤ j ∧ j ≤ 6) → h'.1 q j = h.1 q j
theorem FcP.rf {h : zH} : FcP B h h := ⟨rfl, fun _ _ _ _ => rfl⟩
theorem FcP.tr {h h' h'' : zH} (a : FcP B h h') (b : FcP B h' h'') : FcP B h h'' := ⟨b.1.trans a.1, fun q j z1 z2 => (b.2 q j z1 z2).trans (a.2 q j z1 z2)⟩
theorem FcP.view {h h' : zH} (a : FcP B h h') : vw h'.1 (B + 500) = vw h.1 (B + 500) := vw_ext fun o ho j => a.2 _ _ (by omega) (by omega)
theorem FcS.p {h h' : zH} (a : FcS (B + 498) h h') : FcP B h h' := ⟨a.1, fun q j _ z2 => a.2 q j z2⟩
end OPS
section OPS
variable {B : Nat} {t : Nat → Int} {len : Nat}
end OPS
theorem sNamed_b {v : Nat → Nat → Int} {x : Int} : sNamed v x = -1 ∨ ∃ k, k < nSt v ∧ sNamed v x = (k : Int) := by
  unfold sNamed
  rcases zfs_spec (P := fun k => decide (v (5 + 2 * k) 0 = x)) (nSt v) 0 with ⟨z1, z2⟩ | ⟨k, z1, z2, z3, z4⟩
  · rw [z1]; exact Or.inl rfl
  · rw [z1]; exact Or.inr ⟨k, by omega, rfl⟩
section TOT
variable {h : zH} {K : Nat}
theorem tot_sign (x : Int) : ∃ c, q_X6_signAt h K x = some c := by
  unfold q_X6_signAt
  by_cases a : x < 0
  · rw [if_pos a]; exact ⟨_, rfl⟩
  · rw [if_neg a]
    by_cases b : h.1 K 2 ≤ x
    · rw [if_pos b]; exact ⟨_, rfl⟩
    · rw [if_neg b]
      by_cases c : 1000 ≤ x
      · rw [if_pos c]; exact ⟨_, rfl⟩
      · rw [if_neg c, zgi_pos (by omega) (by omega)]; exact ⟨_, rfl⟩
theorem tot_isWord {n : Nat} (hn : n < 12) : ∃ y, q_X6_isWord h K n = some y := by
  have hl := wln_b n hn
  have key : ∀ (r i f : Nat), i + r = wln n → r < f → ∃ y, q_X6_isWord_L28 h K n (fun _ => some 1) f (i : Int) = some y := by
    intro r
    induction r with
    | zero =>
      intro i f q1 q2
      obtain ⟨f', rfl⟩ : ∃ f', f = f' + 1 := ⟨f - 1, by omega⟩
      have e : i = wln n := by omega
      refine ⟨1, ?_⟩
      rw [q_X6_isWord_L28, e0_len (by omega), zbp_some, e, if_pos (Int.le_refl _)]
    | succ r ih =>
      intro i f q1 q2
      obtain ⟨f', rfl⟩ : ∃ f', f = f' + 1 := ⟨f - 1, by omega⟩
      obtain ⟨c, hc⟩ := tot_sign (h := h) (K := K) (zw (h.1 K 5 + (i : Int)))
      rw [q_X6_isWord_L28, e0_len (by omega), zbp_some, if_neg (by omega), hc, zbp_some, e0_chr (by omega) (by omega), zbp_some]
      simp only [zlet_b]
      rw [zw_s (by omega)]
      by_cases e : c = wch n i
      · rw [if_pos e]
        exact ih (i + 1) f' (by omega) (by omega)
      · rw [if_neg e]
        exact ⟨0, rfl⟩
  unfold q_X6_isWord
  by_cases a : h.1 K 4 = 1
  · rw [if_pos a, e0_len (by omega), zbp_some]
    by_cases b : zw (h.1 K 3 - h.1 K 5) = (wln n : Int)
    · rw [if_pos b]
      exact key (wln n) 0 zF (Nat.zero_add _) (by unfold zF; omega)
    · rw [if_neg b]; exact ⟨0, rfl⟩
  · rw [if_neg a]; exact ⟨0, rfl⟩
theorem e2_word {i : Nat} (hi : i < 7) : q_X2_settingWord h (i : Int) = some (5 + i) := by
  unfold q_X2_settingWord
  obtain rfl | rfl | rfl | rfl | rfl | rfl | rfl : i = 0 ∨ i = 1 ∨ i = 2 ∨ i = 3 ∨ i = 4 ∨ i = 5 ∨ i = 6 := by omega
  all_goals decide
theorem tot_setting {L : Nat} : ∃ y, q_X2_settingHere h L = some y := by
  have key : ∀ (r i f : Nat), i + r = 7 → r < f → ∃ y, q_X2_settingHere_L2 h L (fun _ => some (-1)) f (i : Int) = some y := by
    intro r
    induction r with
    | zero =>
      intro i f q1 q2
      obtain ⟨f', rfl⟩ : ∃ f', f = f' + 1 := ⟨f - 1, by omega⟩
      have e : i = 7 := by omega
      subst e
      refine ⟨-1, ?_⟩
      rw [q_X2_settingHere_L2]
      exact if_pos (by decide)
    | succ r ih =>
      intro i f q1 q2
      obtain ⟨f', rfl⟩ : ∃ f', f = f' + 1 := ⟨f - 1, by omega⟩
      obtain ⟨y, hy⟩ := tot_isWord (h := h) (K := h.2 L 0) (n := 5 + i) (by omega)
      rw [q_X2_settingHere_L2, if_neg (by omega), e2_word (by omega), zbp_some, hy, zbp_some]
      simp only [zlet_b]
      rw [zw_s (by omega)]
      by_cases e : y = 0
      · rw [if_pos e]
        exact ih (i + 1) f' (by omega) (by omega)
      · rw [if_neg e]
        exact ⟨_, rfl⟩
  unfold q_X2_settingHere
  exact key 7 0 zF (by omega) (by unfold zF; omega)
theorem tot_packed : ∃ y, q_X6_packedLetters h K = some y := by
  have key : ∀ (r i f : Nat) (p : Int), i + r = 6 → r < f → ∃ y, q_X6_packedLetters_L4 h K (fun x7 _ => some x7) f p (i : Int) = some y := by
    intro r
    induction r with
    | zero =>
      intro i f p q1 q2
      obtain ⟨f', rfl⟩ : ∃ f', f = f' + 1 := ⟨f - 1, by omega⟩
      have e : i = 6 := by omega
      subst e
      refine ⟨p, ?_⟩
      rw [q_X6_packedLetters_L4]
      exact if_pos (by decide)
    | succ r ih =>
      intro i f p q1 q2
      obtain ⟨f', rfl⟩ : ∃ f', f = f' + 1 := ⟨f - 1, by omega⟩
      obtain ⟨c, hc⟩ := tot_sign (h := h) (K := K) (zw (h.1 K 5 + (i : Int)))
      rw [q_X6_packedLetters_L4, if_neg (by omega), hc]
      simp only [zlet_b, zbp_some]
      rw [zw_s (by omega)]
      split
      · exact ih (i + 1) f' _ (by omega) (by omega)
      · exact ih (i + 1) f' _ (by omega) (by omega)
  unfold q_X6_packedLetters
  exact key 6 0 zF 0 (by omega) (by unfold zF; omega)
theorem tot_short : ∃ y, q_X6_isShortWord h K = some y := by
  unfold q_X6_isShortWord
  split
  · split
    · exact ⟨_, rfl⟩
    · exact ⟨_, rfl⟩
  · exact ⟨_, rfl⟩
/-- after an error a name is read without any effect -/
theorem tot_name {L : Nat} (h3 : ¬ h.1 L 3 = 0) : ∃ y, q_X2_readName h L = some (y, h) := by
  have noC : ∀ c : Int, q_X2_fail h L c = some ((), h) := fun c => by
    unfold q_X2_fail
    rw [if_neg h3]
  obtain ⟨a, ha⟩ := tot_short (h := h) (K := h.2 L 0)
  obtain ⟨b, hb⟩ := tot_isWord (h := h) (K := h.2 L 0) (n := 2) (by decide)
  obtain ⟨c, hc⟩ := tot_isWord (h := h) (K := h.2 L 0) (n := 3) (by decide)
  obtain ⟨d, hd⟩ := tot_isWord (h := h) (K := h.2 L 0) (n := 4) (by decide)
  obtain ⟨e, he⟩ := tot_setting (h := h) (L := L)
  obtain ⟨p, hp⟩ := tot_packed (h := h) (K := h.2 L 0)
  unfold q_X2_readName
  rw [ha, hb, hc, hd, he, hp]
  simp only [zbp_some, noC, zbd_some]
  split
  · exact ⟨_, rfl⟩
  · split
    · split
      · split
        · split
          · exact ⟨_, rfl⟩
          · exact ⟨_, rfl⟩
        · exact ⟨_, rfl⟩
      · exact ⟨_, rfl⟩
    · exact ⟨_, rfl⟩
end TOT
/-- a word's letters as a number -/
def pk (t : Nat → Int) (s x : Nat) (i : Nat) : Int := zit (fun (p : Int) i => zor (zshl p 5) (if x ≤ s + i then 0 else zw (zw (t (s + i) - 97) + 1))) i 0
theorem pk_s {t : Nat → Int} {s x i : Nat} : pk t s x (i + 1) = zor (zshl (pk t s x i) 5) (if x ≤ s + i then 0 else zw (zw (t (s + i) - 97) + 1)) := rfl
section TK
variable {K M : Nat} {t : Nat → Int} {len : Nat} {h g : zH}
theorem e6_packed (hb : Tb t len) (hc : TxC K t len h) {s x : Nat} (h5 : h.1 K 5 = (s : Int)) (h3 : h.1 K 3 = (x : Int)) (hsx : s ≤ x) (hx : x ≤ len) : q_X6_packedLetters h K = some (pk t s x 6) := by
  have h1000 := hb.1
  have key : ∀ (r i f : Nat), i + r = 6 → r < f → q_X6_packedLetters_L4 h K (fun x7 _ => some x7) f (pk t s x i) (i : Int) = some (pk t s x 6) := by
    intro r
    induction r with
    | zero =>
      intro i f q1 q2
      obtain ⟨f', rfl⟩ : ∃ f', f = f' + 1 := ⟨f - 1, by omega⟩
      have e : i = 6 := by omega
      subst e
      rw [q_X6_packedLetters_L4]
      exact if_pos (by decide)
    | succ r ih =>
      intro i f q1 q2
      obtain ⟨f', rfl⟩ : ∃ f', f = f' + 1 := ⟨f - 1, by omega⟩
      have hii : i < 1000000 := by omega
      have hn6 : ¬ (6 : Int) ≤ (i : Int) := by omega
      have wsi : zw ((s : Int) + (i : Int)) = ((s + i : Nat) : Int) := zw_c (by omega)
      have hnx := ih (i + 1) f' (by omega) (by omega)
      rw [pk_s] at hnx
      rw [q_X6_packedLetters_L4, if_neg hn6, h3, h5, wsi, e6_sign hb hc]
      simp only [zlet_b, zbp_some]
      rw [zw_s hii]
      by_cases q : x ≤ s + i
      · rw [if_pos q] at hnx
        rw [if_pos (by clear wsi; omega)]
        exact hnx
      · rw [if_neg q] at hnx
        rw [if_neg (by clear wsi; omega), chr_in (by clear wsi; omega)]
        exact hnx
  unfold q_X6_packedLetters
  exact key 6 0 zF (by omega) (by unfold zF; omega)
theorem e2_setting {L : Nat} (hK : h.2 L 0 = K) (hb : Tb t len) (hc : TxC K t len h) {s x : Nat} (h5 : h.1 K 5 = (s : Int)) (h3 : h.1 K 3 = (x : Int)) (hsx : s ≤ x) (hx : x ≤ len) : q_X2_settingHere h L = some (if h.1 K 4 = 1 ∧ 5 ≤ wdx t s x then wdx t s x - 5 else -1) := by
  have key := zfind0 (L := fun f i => q_X2_settingHere_L2 h L (fun _ => some (-1)) f i) (N := 7) (fun i => decide (h.1 K 4 = 1 ∧ Mtb t s x (5 + i) = true)) (r := fun i => some (i : Int)) (kf := some (-1 : Int)) (by omega) (fun f i hi => ?_) (fun f => ?_)
  · unfold q_X2_settingHere
    refine key.trans ?_
    rcases zfs_spec (P := fun i => decide (h.1 K 4 = 1 ∧ Mtb t s x (5 + i) = true)) 7 0 with ⟨z1, z2⟩ | ⟨k, z1, z2, z3, z4⟩
    · have hn : ¬ (h.1 K 4 = 1 ∧ 5 ≤ wdx t s x) := fun y => by
        rcases wdx_b (t := t) (s := s) (x := x) with e | ⟨n, n1, n2⟩
        · omega
        · have := z2 (n - 5) (by omega) (by omega)
          rw [zdec] at this
          refine this ⟨y.1, ?_⟩
          rw [show 5 + (n - 5) = n by omega]
          exact (wdx_iff n1).mpr n2
      rw [z1, if_neg hn]
    · rw [zdec] at z4
      have e := (wdx_iff (by omega)).mp z4.2
      rw [z1, if_pos ⟨z4.1, by omega⟩]
      show some (k : Int) = _
      congr 1
      omega
  · have hii : i < 1000000 := by omega
    show q_X2_settingHere_L2 h L (fun _ => some (-1)) (f + 1) (i : Int) = _
    rw [q_X2_settingHere_L2, if_neg (by omega), e2_word hi, zbp_some, hK, e6_isWord hb hc h5 h3 hsx hx (by omega), zbp_some]
    simp only [zlet_b, zdec]
    rw [zw_s hii]
    by_cases q : h.1 K 4 = 1 ∧ Mtb t s x (5 + i) = true
    · rw [if_pos q, if_neg one0, if_pos q]
    · rw [if_neg q, if_pos rfl, if_neg q]
  · show q_X2_settingHere_L2 h L (fun _ => some (-1)) (f + 1) ((7 : Nat) : Int) = _
    rw [q_X2_settingHere_L2]
    exact if_pos (by decide)
end TK
section OPS
variable {B : Nat} {t : Nat → Int} {len : Nat}
end OPS
section OPS
variable {B : Nat} {t : Nat → Int} {len : Nat}
theorem nofail {h : zH} (z : ¬ h.1 (B + 497) 3 = 0) (c : Int) : q_X2_fail h (B + 497) c = some ((), h) := by
  unfold q_X2_fail
  rw [if_neg z]
theorem noacc {h : zH} (z : ¬ h.1 (B + 497) 3 = 0) : q_X2_accept h (B + 497) = some ((), h) := by
  unfold q_X2_accept
  rw [if_neg z]
end OPS
theorem GI.none {v : Nat → Nat → Int} (h : v 0 7 = 0) : GI v := ⟨fun k l hk => by omega, fun k hk => by omega, fun k hk => by omega⟩
theorem WF.car {v : Nat → Nat → Int} {y : Int} (w : WF v) (h7 : v 0 7 = 0) (hy : 1 ≤ y ∧ y ≤ 4) : WF (vup v 0 1 y) := by
  have q : ∀ o j, ¬ (o = 0 ∧ j = 1) → vup v 0 1 y o j = v o j := fun o j h => vup_ne h
  have er : ∀ o, o ≠ 0 → vup v 0 1 y o = v o := fun o ho => funext fun j => q o j (fun z => ho z.1)
  obtain ⟨a1, a2, a3, a4, a5, a6, a7, a8, a9⟩ := w
  refine ⟨by rw [q 0 0 (by omega)]; exact a1, by rw [vup_at]; exact hy, by rw [q 0 3 (by omega)]; exact a3, by rw [q 0 5 (by omega)]; exact a4, by rw [q 0 7 (by omega)]; exact a5, by rw [er 1 (by omega)]; exact a6, fun s hs => ?_, fun r hr => ?_, fun k hk => ?_⟩
  · rw [q 0 3 (by omega)] at hs
    have := a7 s hs
    unfold WFs at this ⊢
    rw [er (5 + 2 * s) (by omega), er (6 + 2 * s) (by omega), q 0 0 (by omega)]
    exact this
  · rw [q 0 5 (by omega)] at hr
    have := a8 r hr
    unfold WFr at this ⊢
    rw [er (17 + r) (by omega), q 0 3 (by omega)]
    exact this
  · rw [q 0 7 (by omega)] at hk
    omega
theorem WF.set0 {v : Nat → Nat → Int} {j : Nat} {x : Int} (w : WF v) (h7 : v 0 7 = 0) (hx : zsV 0 j ≤ x ∧ x ≤ zsV 1 j) : WF (vup v 1 j x) := by
  have e0 : vup v 1 j x 0 = v 0 := funext fun i => vup_ne (by omega)
  have eo : ∀ o, o ≠ 1 → vup v 1 j x o = v o := fun o ho => funext fun i => vup_ne (by omega)
  obtain ⟨a1, a2, a3, a4, a5, a6, a7, a8, a9⟩ := w
  refine ⟨by rw [e0]; exact a1, by rw [e0]; exact a2, by rw [e0]; exact a3, by rw [e0]; exact a4, by rw [e0]; exact a5, fun i hi => ?_, fun s hs => ?_, fun r hr => ?_, fun l hl => ?_⟩
  · by_cases e : i = j
    · rw [e, vup_at]
      exact hx
    · rw [vup_ne (by omega)]
      exact a6 i hi
  · rw [e0] at hs
    unfold WFs
    rw [e0, eo _ (by omega), eo _ (by omega)]
    exact a7 s hs
  · rw [e0] at hr
    unfold WFr
    rw [e0, eo _ (by omega)]
    exact a8 r hr
  · rw [e0] at hl
    omega
/-- a setting as a statement may change it -/
theorem set_good {v : Nat → Nat → Int} {j : Nat} {x : Int} (g : Good v) (hj : j < 7) (h7 : 4 ≤ j ∨ v 0 7 = 0) (hx : zsV 0 j ≤ x ∧ x ≤ zsV 1 j) : Good (vup v 1 j x) := by
  rcases h7 with h4 | h7
  · exact ⟨g.1.set1 h4 hj hx, Ceq.gi (v := v) ⟨⟨(vup_ne (by omega)).symm, (vup_ne (by omega)).symm, (vup_ne (by omega)).symm⟩, fun i hi => (vup_ne (by omega)).symm, fun k hk => ⟨fun i hi => (vup_ne (by omega)).symm, (vup_ne (by omega)).symm, fun _ => ⟨(vup_ne (by omega)).symm, (vup_ne (by omega)).symm⟩⟩⟩ g.2⟩
  · exact ⟨g.1.set0 h7 hx, GI.none (by rw [vup_ne (by omega)]; exact h7)⟩
section OPS
variable {B : Nat} {t : Nat → Int} {len : Nat}
end OPS
section OPS
variable {B : Nat} {t : Nat → Int} {len : Nat}
def SetC (B j : Nat) (h : zH) : Option (Unit × zH) := zbd (q_X2_accept h (B + 497)) (fun _ h3 => zbd (q_X2_readNumber h3 (B + 497) (zsV 0 j) (zsV 1 j)) (fun x4 h5 => zbd (q_X2_readSemicolon h5 (B + 497)) (fun _ h6 => if h6.1 (B + 497) 3 = 0 then some ((), zput (zput h6 (B + 497) 5 (zor (h6.1 (B + 497) 5) (zshl 1 (j : Int)))) ((zput h6 (B + 497) 5 (zor (h6.1 (B + 497) 5) (zshl 1 (j : Int)))).2 ((zput h6 (B + 497) 5 (zor (h6.1 (B + 497) 5) (zshl 1 (j : Int)))).2 (B + 497) 1) 2) j x4) else some ((), h6))))
theorem SetC_eq {h : zH} {j : Nat} (hj : j < 7) : zbd (q_X2_accept h (B + 497)) (fun _ h3 => zgi 7 (j : Int) (zgi 7 (j : Int) (zbd (q_X2_readNumber h3 (B + 497) (zsV 0 (j : Int).toNat) (zsV 1 (j : Int).toNat)) (fun x4 h5 => zbd (q_X2_readSemicolon h5 (B + 497)) (fun _ h6 => if h6.1 (B + 497) 3 = 0 then (zlet (zput h6 (B + 497) 5 (zor (h6.1 (B + 497) 5) (zshl 1 (j : Int)))) (fun h7 => zgi 7 (j : Int) (zlet (zput h7 (h7.2 (h7.2 (B + 497) 1) 2) (j : Int).toNat x4) (fun h8 => some ((), h8))))) else (some ((), h6))))))) = SetC B j h := by
  have a0 : (0 : Int) ≤ (j : Int) := by omega
  have a1 : (j : Int) < ((7 : Nat) : Int) := by omega
  simp only [zgi_pos a0 a1, Int.toNat_natCast, zlet_b]
  rfl
end OPS
def cst (a b c d e : Int) : Nat → Int := fun j => if j = 0 then a else if j = 1 then b else if j = 2 then c else if j = 3 then d else if j = 4 then e else if j = 5 then d else 0
def vsn (v : Nat → Nat → Int) (n : Nat) (a b c d e : Int) : Nat → Nat → Int := fun o j => if o = 0 ∧ j = 3 then ((n + 1 : Nat) : Int) else if o = 5 + 2 * n ∧ j < 7 then cst a b c d e j else if o = 6 + 2 * n ∧ j < 64 then 0 else v o j
section VS
variable {v : Nat → Nat → Int} {n : Nat} {a b c d e : Int}
theorem vsn_ne {o j : Nat} (h1 : ¬ (o = 0 ∧ j = 3)) (h2 : o ≠ 5 + 2 * n) (h3 : o ≠ 6 + 2 * n) : vsn v n a b c d e o j = v o j := by
  unfold vsn
  rw [if_neg h1, if_neg (fun z => h2 z.1), if_neg (fun z => h3 z.1)]
theorem vsn_n : vsn v n a b c d e 0 3 = ((n + 1 : Nat) : Int) := by
  unfold vsn
  rw [if_pos ⟨rfl, rfl⟩]
theorem vsn_c {j : Nat} (hj : j < 7) : vsn v n a b c d e (5 + 2 * n) j = cst a b c d e j := by
  unfold vsn
  rw [if_neg (by omega), if_pos ⟨rfl, hj⟩]
theorem vsn_z {j : Nat} (hj : j < 64) : vsn v n a b c d e (6 + 2 * n) j = 0 := by
  unfold vsn
  rw [if_neg (by omega), if_neg (by omega), if_pos ⟨rfl, hj⟩]
theorem vsn_row {o : Nat} (h1 : o ≠ 0) (h2 : o ≠ 5 + 2 * n) (h3 : o ≠ 6 + 2 * n) : vsn v n a b c d e o = v o := funext fun j => vsn_ne (fun z => h1 z.1) h2 h3
theorem vsn_cs : vsn v n a b c d e (5 + 2 * n) 0 = a ∧ vsn v n a b c d e (5 + 2 * n) 1 = b ∧ vsn v n a b c d e (5 + 2 * n) 2 = c ∧ vsn v n a b c d e (5 + 2 * n) 3 = d ∧ vsn v n a b c d e (5 + 2 * n) 4 = e ∧ vsn v n a b c d e (5 + 2 * n) 5 = d ∧ vsn v n a b c d e (5 + 2 * n) 6 = 0 :=
  ⟨vsn_c (by decide), vsn_c (by decide), vsn_c (by decide), vsn_c (by decide), vsn_c (by decide), vsn_c (by decide), vsn_c (by decide)⟩
theorem WF.sts (w : WF v) (hn : v 0 3 = (n : Int)) (h6 : n < 6) (hb : 0 ≤ b ∧ b ≤ 5000) (hc : -50 ≤ c ∧ c ≤ 50) (hd : 0 ≤ d ∧ d ≤ e ∧ e ≤ 999) : WF (vsn v n a b c d e) := by
  obtain ⟨c0, c1, c2, c3, c4, c5, c6⟩ := vsn_cs (v := v) (n := n) (a := a) (b := b) (c := c) (d := d) (e := e)
  have hS := w.nS
  have hR := w.nR
  obtain ⟨a1, a2, a3, a4, a5, a6, a7, a8, a9⟩ := w
  have z0 : vsn v n a b c d e 0 0 = v 0 0 := vsn_ne (by omega) (by omega) (by omega)
  have z1 : vsn v n a b c d e 0 1 = v 0 1 := vsn_ne (by omega) (by omega) (by omega)
  have z5 : vsn v n a b c d e 0 5 = v 0 5 := vsn_ne (by omega) (by omega) (by omega)
  have z7 : vsn v n a b c d e 0 7 = v 0 7 := vsn_ne (by omega) (by omega) (by omega)
  have zz : ∀ j, j < 64 → vsn v n a b c d e (6 + 2 * n) j = 0 := fun j hj => vsn_z hj
  refine ⟨by rw [z0]; exact a1, by rw [z1]; exact a2, by rw [vsn_n]; omega, by rw [z5]; exact a4, by rw [z7]; exact a5, fun j hj => by rw [vsn_row (by omega) (by omega) (by omega)]; exact a6 j hj, fun s hs => ?_, fun r hr => ?_, fun k hk => ?_⟩
  · rw [vsn_n] at hs
    by_cases q : s = n
    · subst q
      unfold WFs
      rw [c1, c2, c3, c4, c5, c6, z0]
      exact ⟨hb, hc, hd, ⟨hd.1, by omega⟩, ⟨Int.le_refl _, a1.1⟩, fun j hj => by rw [zz j hj]; omega⟩
    · have := a7 s (by omega)
      unfold WFs at this ⊢
      rw [vsn_row (o := 5 + 2 * s) (by omega) (by omega) (by omega), vsn_row (o := 6 + 2 * s) (by omega) (by omega) (by omega), z0]
      exact this
  · rw [z5] at hr
    have := a8 r hr
    unfold WFr at this ⊢
    rw [vsn_row (o := 17 + r) (by omega) (by omega) (by omega), vsn_n]
    exact ⟨⟨this.1.1, by omega⟩, this.2⟩
  · rw [z7] at hk
    have := a9 k hk
    unfold WFc at this ⊢
    rw [vsn_row (o := 25 + k) (by omega) (by omega) (by omega), vsn_row (o := 1) (by omega) (by omega) (by omega), vsn_n, z0, z1]
    exact ⟨⟨this.1.1, by omega⟩, ⟨this.2.1.1, by omega⟩, this.2.2⟩
theorem sts_good (g : Good v) (hn : v 0 3 = (n : Int)) (h6 : n < 6) (hb : 0 ≤ b ∧ b ≤ 5000) (hc : -50 ≤ c ∧ c ≤ 50) (hd : 0 ≤ d ∧ d ≤ e ∧ e ≤ 999) : Good (vsn v n a b c d e) := by
  have w7 := g.1.2.2.2.2.1
  refine ⟨g.1.sts hn h6 hb hc hd, Ceq.gi (v := v) ⟨⟨(vsn_ne (by omega) (by omega) (by omega)).symm, (vsn_ne (by omega) (by omega) (by omega)).symm, (vsn_ne (by omega) (by omega) (by omega)).symm⟩, fun i hi => (vsn_ne (by omega) (by omega) (by omega)).symm, fun k hk => ?_⟩ g.2⟩
  have er : vsn v n a b c d e (25 + k) = v (25 + k) := vsn_row (by omega) (by omega) (by omega)
  rw [er]
  exact ⟨fun i hi => rfl, rfl, fun _ => ⟨rfl, rfl⟩⟩
end VS
theorem e4_addStation {h : zH} {A n : Nat} (hc : cly h.2 A) (hn : h.1 A 3 = (n : Int)) (h6 : n < 6) {a b c d e : Int} : ∃ h', q_X4_addStation h A a b c d e = some ((), h') ∧ h'.2 = h.2 ∧ vw h'.1 A = vsn (vw h.1 A) n a b c d e ∧ ∀ q j, ¬ (A ≤ q ∧ q < A + 41) → h'.1 q j = h.1 q j := by
  have eP : h.2 (h.2 A 4) n = A + (5 + 2 * n) := by rw [hc.sts, hc.st]
  have eE : h.2 (A + (5 + 2 * n)) 7 = A + (6 + 2 * n) := hc.er h6
  unfold q_X4_addStation
  rw [hn, if_neg (by omega), zgpos h6, Int.toNat_natCast, eP]
  unfold q_X5_declare
  simp only [zlet_b]
  obtain ⟨g2, p1, p2, p3, p4⟩ := e5_forget (h := zput (zput (zput (zput (zput (zput (zput h (A + (5 + 2 * n)) 0 a) (A + (5 + 2 * n)) 1 b) (A + (5 + 2 * n)) 2 c) (A + (5 + 2 * n)) 3 d) (A + (5 + 2 * n)) 4 e) (A + (5 + 2 * n)) 5 d) (A + (5 + 2 * n)) 6 0) (P := A + (5 + 2 * n)) (E := A + (6 + 2 * n)) eE
  have z3 : g2.1 A 3 = (n : Int) := by
    rw [p4 _ _ (by omega), zput_ne (by omega), zput_ne (by omega), zput_ne (by omega), zput_ne (by omega), zput_ne (by omega), zput_ne (by omega), zput_ne (by omega)]
    exact hn
  rw [p1, zbd_some, zbd_some, z3, zw_s (by omega)]
  refine ⟨_, rfl, p2, ?_, fun q j hq => ?_⟩
  · funext o j
    by_cases ho : o < 41
    · rw [vw_at ho]
      unfold vsn
      by_cases q1 : o = 0 ∧ j = 3
      · obtain ⟨rfl, rfl⟩ := q1
        rw [if_pos ⟨rfl, rfl⟩]
        exact zput_self
      · rw [if_neg q1, zput_ne (by omega)]
        by_cases q2 : o = 5 + 2 * n ∧ j < 7
        · obtain ⟨rfl, hj⟩ := q2
          rw [if_pos ⟨rfl, hj⟩, p4 _ _ (by omega)]
          obtain rfl | rfl | rfl | rfl | rfl | rfl | rfl : j = 0 ∨ j = 1 ∨ j = 2 ∨ j = 3 ∨ j = 4 ∨ j = 5 ∨ j = 6 := by omega
          · rw [zput_ne (by omega), zput_ne (by omega), zput_ne (by omega), zput_ne (by omega), zput_ne (by omega), zput_ne (by omega), zput_self]; rfl
          · rw [zput_ne (by omega), zput_ne (by omega), zput_ne (by omega), zput_ne (by omega), zput_ne (by omega), zput_self]; rfl
          · rw [zput_ne (by omega), zput_ne (by omega), zput_ne (by omega), zput_ne (by omega), zput_self]; rfl
          · rw [zput_ne (by omega), zput_ne (by omega), zput_ne (by omega), zput_self]; rfl
          · rw [zput_ne (by omega), zput_ne (by omega), zput_self]; rfl
          · rw [zput_ne (by omega), zput_self]; rfl
          · rw [zput_self]; rfl
        · rw [if_neg q2]
          by_cases q3 : o = 6 + 2 * n ∧ j < 64
          · rw [if_pos q3, q3.1]
            exact p3 j q3.2
          · rw [if_neg q3, vw_at ho, p4 _ _ (by omega), zput_ne (by omega), zput_ne (by omega), zput_ne (by omega), zput_ne (by omega), zput_ne (by omega), zput_ne (by omega), zput_ne (by omega)]
    · unfold vsn
      rw [if_neg (by omega), if_neg (by omega), if_neg (by omega)]
      unfold vw
      rw [if_neg ho, if_neg ho]
  · rw [zput_ne (by omega), p4 _ _ (by omega), zput_ne (by omega), zput_ne (by omega), zput_ne (by omega), zput_ne (by omega), zput_ne (by omega), zput_ne (by omega), zput_ne (by omega)]
section OPS
variable {B : Nat} {t : Nat → Int} {len : Nat}
def StaC (B : Nat) (σ : Int) (h : zH) (x2 x4 : Int) : Option (Unit × zH) := zbd (q_X2_readNumber h (B + 497) 0 50) (fun x16 h17 => zbd (q_X2_readNumber h17 (B + 497) 0 999) (fun x19 h20 => zbd (q_X2_readNumber h20 (B + 497) x19 999) (fun x21 h22 => zbd (q_X2_readSemicolon h22 (B + 497)) (fun _ h23 => if h23.1 (B + 497) 3 = 0 then (zbd (q_X4_addStation h23 (h23.2 (B + 497) 1) x2 x4 (zw (σ * x16)) x19 x21) (fun _ h24 => some ((), h24))) else (some ((), h23))))))
end OPS
section OPS
variable {B : Nat} {t : Nat → Int} {len : Nat}
def StaF (B : Nat) (h : zH) : Option (Unit × zH) := zbd (q_X2_accept h (B + 497)) (fun _ h1 => zbd (q_X2_readNewName h1 (B + 497)) (fun x2 h3 => zbd (q_X2_readNumber h3 (B + 497) 0 5000) (fun x4 h5 => if h5.1 (h5.2 (B + 497) 0) 4 = 4 then zbd (q_X2_accept h5 (B + 497)) (fun _ h15 => StaC B (-1) h15 x2 x4) else StaC B 1 h5 x2 x4)))
end OPS
def vra (v : Nat → Nat → Int) (n : Nat) (a b c d : Int) : Nat → Nat → Int := vup (vup (vup (vup (vup v (17 + n) 0 a) (17 + n) 1 b) (17 + n) 2 c) (17 + n) 3 d) 0 5 ((n + 1 : Nat) : Int)
section VR
variable {v : Nat → Nat → Int} {n : Nat} {a b c d : Int}
theorem vra_ne {o j : Nat} (h1 : ¬ (o = 0 ∧ j = 5)) (h2 : o ≠ 17 + n) : vra v n a b c d o j = v o j := by
  unfold vra
  rw [vup_ne (by omega), vup_ne (by omega), vup_ne (by omega), vup_ne (by omega), vup_ne (by omega)]
theorem vra_n : vra v n a b c d 0 5 = ((n + 1 : Nat) : Int) := vup_at
theorem vra_cs : vra v n a b c d (17 + n) 0 = a ∧ vra v n a b c d (17 + n) 1 = b ∧ vra v n a b c d (17 + n) 2 = c ∧ vra v n a b c d (17 + n) 3 = d := by
  unfold vra
  refine ⟨?_, ?_, ?_, ?_⟩
  · rw [vup_ne (by omega), vup_ne (by omega), vup_ne (by omega), vup_ne (by omega), vup_at]
  · rw [vup_ne (by omega), vup_ne (by omega), vup_ne (by omega), vup_at]
  · rw [vup_ne (by omega), vup_ne (by omega), vup_at]
  · rw [vup_ne (by omega), vup_at]
theorem vra_row {o : Nat} (h1 : o ≠ 0) (h2 : o ≠ 17 + n) : vra v n a b c d o = v o := funext fun j => vra_ne (fun z => h1 z.1) h2
theorem WF.rns (w : WF v) (hn : v 0 5 = (n : Int)) (h8 : n < 8) (ha : 0 ≤ a ∧ a < v 0 3) (hb : 0 ≤ b ∧ b ≤ c ∧ c ≤ 9999) (hd : 1 ≤ d ∧ d ≤ 400) : WF (vra v n a b c d) := by
  obtain ⟨c0, c1, c2, c3⟩ := vra_cs (v := v) (n := n) (a := a) (b := b) (c := c) (d := d)
  have hS := w.nS
  obtain ⟨a1, a2, a3, a4, a5, a6, a7, a8, a9⟩ := w
  have z0 : vra v n a b c d 0 0 = v 0 0 := vra_ne (by omega) (by omega)
  have z1 : vra v n a b c d 0 1 = v 0 1 := vra_ne (by omega) (by omega)
  have z3 : vra v n a b c d 0 3 = v 0 3 := vra_ne (by omega) (by omega)
  have z7 : vra v n a b c d 0 7 = v 0 7 := vra_ne (by omega) (by omega)
  refine ⟨by rw [z0]; exact a1, by rw [z1]; exact a2, by rw [z3]; exact a3, by rw [vra_n]; omega, by rw [z7]; exact a5, fun j hj => by rw [vra_row (o := 1) (by omega) (by omega)]; exact a6 j hj, fun s hs => ?_, fun r hr => ?_, fun k hk => ?_⟩
  · rw [z3] at hs
    have := a7 s hs
    unfold WFs at this ⊢
    rw [vra_row (o := 5 + 2 * s) (by omega) (by omega), vra_row (o := 6 + 2 * s) (by omega) (by omega), z0]
    exact this
  · rw [vra_n] at hr
    by_cases q : r = n
    · subst q
      unfold WFr
      rw [c0, c1, c2, c3, z3]
      exact ⟨ha, hb, hd⟩
    · have := a8 r (by omega)
      unfold WFr at this ⊢
      rw [vra_row (o := 17 + r) (by omega) (by omega), z3]
      exact this
  · rw [z7] at hk
    have := a9 k hk
    unfold WFc at this ⊢
    rw [vra_row (o := 25 + k) (by omega) (by omega), vra_row (o := 1) (by omega) (by omega), z0, z1, z3]
    exact this
theorem rns_good (g : Good v) (hn : v 0 5 = (n : Int)) (h8 : n < 8) (ha : 0 ≤ a ∧ a < v 0 3) (hb : 0 ≤ b ∧ b ≤ c ∧ c ≤ 9999) (hd : 1 ≤ d ∧ d ≤ 400) : Good (vra v n a b c d) := by
  have w7 := g.1.2.2.2.2.1
  refine ⟨g.1.rns hn h8 ha hb hd, Ceq.gi (v := v) ⟨⟨(vra_ne (by omega) (by omega)).symm, (vra_ne (by omega) (by omega)).symm, (vra_ne (by omega) (by omega)).symm⟩, fun i hi => (vra_ne (by omega) (by omega)).symm, fun k hk => ?_⟩ g.2⟩
  have er : vra v n a b c d (25 + k) = v (25 + k) := vra_row (by omega) (by omega)
  rw [er]
  exact ⟨fun i hi => rfl, rfl, fun _ => ⟨rfl, rfl⟩⟩
end VR
theorem e4_addRain {h : zH} {A n : Nat} (hc : cly h.2 A) (hn : h.1 A 5 = (n : Int)) (h8 : n < 8) {a b c d : Int} : ∃ h', q_X4_addRain h A a b c d = some ((), h') ∧ h'.2 = h.2 ∧ vw h'.1 A = vra (vw h.1 A) n a b c d ∧ ∀ q j, ¬ (A ≤ q ∧ q < A + 41) → h'.1 q j = h.1 q j := by
  have eP : h.2 (h.2 A 6) n = A + (17 + n) := by rw [hc.rns, hc.rn]
  unfold q_X4_addRain
  rw [hn, if_neg (by omega), zgpos h8, Int.toNat_natCast, eP]
  simp only [zlet_b]
  have z5 : (zput (zput (zput (zput h (A + (17 + n)) 0 a) (A + (17 + n)) 1 b) (A + (17 + n)) 2 c) (A + (17 + n)) 3 d).1 A 5 = (n : Int) := by
    rw [zput_ne (by omega), zput_ne (by omega), zput_ne (by omega), zput_ne (by omega)]
    exact hn
  rw [z5, zw_s (by omega)]
  refine ⟨_, rfl, rfl, ?_, fun q j hq => ?_⟩
  · rw [vw_put0, vw_put (by omega), vw_put (by omega), vw_put (by omega), vw_put (by omega)]
    rfl
  · rw [zput_ne (by omega), zput_ne (by omega), zput_ne (by omega), zput_ne (by omega), zput_ne (by omega)]
section OPS
variable {B : Nat} {t : Nat → Int} {len : Nat}
def RaiF (B : Nat) (h : zH) : Option (Unit × zH) := zbd (q_X2_accept h (B + 497)) (fun _ h1 => zbd (q_X2_readStationName h1 (B + 497) (-1)) (fun x2 h3 => zbd (q_X2_readNumber h3 (B + 497) 0 9999) (fun x4 h5 => zbd (q_X2_readNumber h5 (B + 497) x4 9999) (fun x6 h7 => zbd (q_X2_readNumber h7 (B + 497) 1 400) (fun x8 h9 => zbd (q_X2_readSemicolon h9 (B + 497)) (fun _ h10 => if h10.1 (B + 497) 3 = 0 then (zbd (q_X4_addRain h10 (h10.2 (B + 497) 1) x2 x4 x6 x8) (fun _ h11 => some ((), h11))) else (some ((), h10))))))))
end OPS
section OPS
variable {B : Nat} {t : Nat → Int} {len : Nat}
theorem zbp_ex {α γ : Type} {o : Option α} {k : α → Option γ} {y : γ} (h : zbp o k = some y) : ∃ x, o = some x ∧ k x = some y := by
  cases o with
  | none => exact absurd h (by unfold zbp; exact fun z => by cases z)
  | some x => exact ⟨x, rfl, h⟩
def CalF (B : Nat) (h : zH) : Option (Unit × zH) := zbd (q_X2_accept h (B + 497)) (fun _ h1 => zbd (q_X2_readStationName h1 (B + 497) (-1)) (fun x2 h3 => zbd (q_X2_readStationName h3 (B + 497) x2) (fun x4 h5 => zbd (q_X2_readNumber h5 (B + 497) 0 9) (fun x6 h7 => zbd (q_X2_readNumber h7 (B + 497) 1 2000) (fun x8 h9 => zbd (q_X2_readNumber h9 (B + 497) 1 9999) (fun x10 h11 => zbd (q_X2_readSemicolon h11 (B + 497)) (fun _ h12 => if h12.1 (B + 497) 3 = 0 then (zbd (q_X4_addCall h12 (h12.2 (B + 497) 1) x2 x4 x6 x8 x10) (fun _ h13 => some ((), h13))) else (some ((), h12)))))))))
end OPS
/-- a row of zeros -/
def zzr (h : zH) (a n : Nat) : zH := (fun q j => if q = a ∧ j < n then 0 else h.1 q j, h.2)
theorem zzr_at {h : zH} {a n j : Nat} (hj : j < n) : (zzr h a n).1 a j = 0 := if_pos ⟨rfl, hj⟩
theorem zzr_ne {h : zH} {a n q j : Nat} (hj : ¬ (q = a ∧ j < n)) : (zzr h a n).1 q j = h.1 q j := if_neg hj
theorem zzr_0 {h : zH} {a : Nat} : zzr h a 0 = h := by
  refine Prod.ext ?_ rfl
  funext q j
  exact if_neg (by omega)
theorem zzr_s {h : zH} {a n : Nat} : zput (zzr h a n) a n 0 = zzr h a (n + 1) := by
  refine Prod.ext ?_ rfl
  funext q j
  by_cases e : q = a ∧ j = n
  · rw [zput_1, if_pos e]
    exact (if_pos (by omega)).symm
  · rw [zput_ne e]
    by_cases e2 : q = a ∧ j < n
    · rw [e2.1, zzr_at e2.2, zzr_at (by omega)]
    · rw [zzr_ne e2, zzr_ne (by omega)]
section NX
variable {M : Nat}
end NX
/-- what the class clears before it reads -/
def V0c (v : Nat → Nat → Int) : Prop := v 0 0 = 0 ∧ v 0 1 = 1 ∧ v 0 3 = 0 ∧ v 0 5 = 0 ∧ v 0 7 = 0 ∧ ∀ j, j < 7 → v 1 j = zsV 2 j
theorem V0c.good {v : Nat → Nat → Int} (c : V0c v) : Good v := by
  obtain ⟨c0, c1, c3, c5, c7, cs⟩ := c
  have hz : ∀ j, j < 7 → zsV 0 j ≤ zsV 2 j ∧ zsV 2 j ≤ zsV 1 j := by decide
  refine ⟨⟨by omega, by omega, by omega, by omega, by omega, fun j hj => by rw [cs j hj]; exact hz j hj, fun s hs => by omega, fun r hr => by omega, fun k hk => by omega⟩, GI.none c7⟩
theorem e4_clear {h : zH} {A : Nat} (hc : cly h.2 A) : ∃ g, q_X4_clear h A = some ((), g) ∧ g.2 = h.2 ∧ V0c (vw g.1 A) ∧ ∀ q j, ¬ (A ≤ q ∧ q < A + 41) → g.1 q j = h.1 q j := by
  unfold q_X4_clear
  simp only [zlet_b]
  have e2 : (zput (zput (zput (zput (zput h A 0 0) A 1 1) A 3 0) A 5 0) A 7 0).2 A 2 = A + 1 := hc.set
  rw [e2]
  have cn : ∀ (g : zH) (q j : Nat), q ≠ A + 1 → (zcpyT g 2 (A + 1)).1 q j = g.1 q j := fun g q j hq => if_neg (fun z => hq z.1)
  have c0 : ∀ j, vw (zcpyT (zput (zput (zput (zput (zput h A 0 0) A 1 1) A 3 0) A 5 0) A 7 0) 2 (A + 1)).1 A 0 j = (zput (zput (zput (zput (zput h A 0 0) A 1 1) A 3 0) A 5 0) A 7 0).1 A j := fun j => by
    rw [vw_at (by decide)]
    exact cn _ _ _ (by omega)
  refine ⟨_, rfl, rfl, ⟨?_, ?_, ?_, ?_, ?_, fun j hj => ?_⟩, fun q j hq => ?_⟩
  · rw [c0, zput_ne (by omega), zput_ne (by omega), zput_ne (by omega), zput_ne (by omega), zput_self]
  · rw [c0, zput_ne (by omega), zput_ne (by omega), zput_ne (by omega), zput_self]
  · rw [c0, zput_ne (by omega), zput_ne (by omega), zput_self]
  · rw [c0, zput_ne (by omega), zput_self]
  · rw [c0, zput_self]
  · rw [vw_at (by decide)]
    exact if_pos ⟨rfl, hj⟩
  · rw [cn _ _ _ (by omega), zput_ne (by omega), zput_ne (by omega), zput_ne (by omega), zput_ne (by omega), zput_ne (by omega)]
section OPS
variable {B : Nat} {t : Nat → Int} {len : Nat}
end OPS
section OPS
variable {B : Nat}
def RdC (L : Nat) (h : zH) (n : Int) (k : Int → zH → Option (Int × zH)) : Option (Int × zH) := zbd (q_X4_clear h (h.2 L 1)) (fun _ h1 => zlet (zput h1 L 3 0) (fun h2 => zlet (zput h2 L 2 ((-1))) (fun h3 => zlet (zput h3 L 4 0) (fun h4 => zlet (zput h4 L 5 0) (fun h5 => zbd (q_X6_begin h5 (h5.2 L 0) n) (fun _ h6 => q_X2_readText_L37 L k zF 0 h6))))))
end OPS
section OPS
variable {B : Nat}
theorem zInv.r497 {h : zH} (hI : zInv B h) : h.2 (B + 497) 0 = B + 498 ∧ h.2 (B + 497) 1 = B + 500 ∧ h.2 (B + 498) 1 = B + 498 + 1 := ⟨hI.1 497 (by decide) (by decide) 0, hI.1 497 (by decide) (by decide) 1, hI.1 498 (by decide) (by decide) 1⟩
theorem i_clyR {h : zH} (hI : zInv B h) : cly h.2 (B + 500) := by
  intro o ho j
  have := hI.1 (500 + o) (by omega) (by omega) j
  rw [gO_500 ho] at this
  rw [Nat.add_assoc, this]
  omega
end OPS
