/-! The words of the format. -/
def wch (n j : Nat) : Int := ((zsB.getD n []).getD j 0).toInt
def wln (n : Nat) : Nat := zsL.getD n 0
def wof (n : Nat) : Nat := ([0, 9, 17, 22, 27, 31, 38, 44, 54, 63, 69, 74, 79] : List Nat).getD n 0
theorem wln_b : ∀ n, n < 12 → 3 ≤ wln n ∧ wln n ≤ 9 := by decide
theorem wof_s : ∀ n, n < 12 → wof (n + 1) = wof n + wln n + 1 ∧ wof n + wln n < 79 := by decide
theorem wch_12 : ∀ n, n < 12 → ∀ i, i < 10 → i < wln n → wch 12 (wof n + i) = wch n i ∧ wch n i ≠ 32 := by decide
theorem wch_sp : ∀ n, n < 12 → wch 12 (wof n + wln n) = 32 := by decide
theorem wdif : ∀ n, n < 12 → ∀ m, m < 12 → n ≠ m → wln n ≠ wln m ∨ ∃ j, j < 9 ∧ j < wln n ∧ wch n j ≠ wch m j := by decide
theorem e0_len {n : Nat} (hn : n < 16) : q_J0_length n = some (wln n : Int) := by
  unfold q_J0_length
  rw [if_pos hn]
  rfl
theorem e0_chr {n j : Nat} (hn : n < 16) (hj : j < wln n) : q_J0_charAt n (j : Int) = some (wch n j) := by
  unfold q_J0_charAt
  have h2 : (j : Int) < ((zsL.getD n 0 : Nat) : Int) := by
    show (j : Int) < ((wln n : Nat) : Int)
    omega
  rw [if_pos ⟨hn, by omega, h2⟩, Int.toNat_natCast]
  rfl
/-- the word from s to x is the format's n-th -/
def Mtb (t : Nat → Int) (s x n : Nat) : Bool := decide (x - s = wln n) && decide (∀ j, j < wln n → t (s + j) = wch n j)
theorem Mtb_iff {t : Nat → Int} {s x n : Nat} : Mtb t s x n = true ↔ (x - s = wln n ∧ ∀ j, j < wln n → t (s + j) = wch n j) := by
  unfold Mtb
  rw [Bool.and_eq_true, decide_eq_true_eq, decide_eq_true_eq]
def wdx (t : Nat → Int) (s x : Nat) : Int := match zfs (Mtb t s x) 12 0 with | none => -1 | some n => (n : Int)
theorem Mtb_one {t : Nat → Int} {s x n m : Nat} (hn : n < 12) (hm : m < 12) (h1 : Mtb t s x n = true) (h2 : Mtb t s x m = true) : n = m := by
  obtain ⟨a1, a2⟩ := Mtb_iff.mp h1
  obtain ⟨b1, b2⟩ := Mtb_iff.mp h2
  refine Classical.byContradiction fun z => ?_
  rcases wdif n hn m hm z with y | ⟨j, _, y1, y2⟩
  · omega
  · exact y2 ((a2 j y1).symm.trans (b2 j (by omega)))
theorem zfs_spec {P : Nat → Bool} : ∀ (m i : Nat), (zfs P m i = none ∧ ∀ k, i ≤ k → k < i + m → ¬ P k = true) ∨ ∃ k, zfs P m i = some k ∧ i ≤ k ∧ k < i + m ∧ P k = true := by
  intro m
  induction m with
  | zero => intro i; exact Or.inl ⟨rfl, fun k z1 z2 => by omega⟩
  | succ m ih =>
    intro i
    unfold zfs
    by_cases q : P i = true
    · rw [if_pos q]
      exact Or.inr ⟨i, rfl, Nat.le_refl _, by omega, q⟩
    · rw [if_neg q]
      rcases ih (i + 1) with ⟨z1, z2⟩ | ⟨k, z1, z2, z3, z4⟩
      · refine Or.inl ⟨z1, fun k y1 y2 => ?_⟩
        by_cases e : k = i
        · rw [e]; exact q
        · exact z2 k (by omega) (by omega)
      · exact Or.inr ⟨k, z1, by omega, by omega, z4⟩
theorem wdx_iff {t : Nat → Int} {s x n : Nat} (hn : n < 12) : Mtb t s x n = true ↔ wdx t s x = (n : Int) := by
  unfold wdx
  rcases zfs_spec (P := Mtb t s x) 12 0 with ⟨z1, z2⟩ | ⟨k, z1, z2, z3, z4⟩
  · rw [z1]
    constructor
    · intro y
      exact absurd y (z2 n (by omega) (by omega))
    · intro y
      have y' : (-1 : Int) = (n : Int) := y
      omega
  · rw [z1]
    constructor
    · intro y
      rw [Mtb_one hn (by omega) y z4]
    · intro y
      have y' : (k : Int) = (n : Int) := y
      have e : k = n := by omega
      rw [← e]
      exact z4
theorem wdx_b {t : Nat → Int} {s x : Nat} : wdx t s x = -1 ∨ ∃ n : Nat, n < 12 ∧ wdx t s x = (n : Int) := by
  unfold wdx
  rcases zfs_spec (P := Mtb t s x) 12 0 with ⟨z1, z2⟩ | ⟨k, z1, z2, z3, z4⟩
  · rw [z1]; exact Or.inl rfl
  · rw [z1]; exact Or.inr ⟨k, by omega, rfl⟩
section TK
variable {K M : Nat} {t : Nat → Int} {len : Nat} {h g : zH}
theorem e6_isWord (hb : Tb t len) (hc : TxC K t len h) {s x : Nat} (h5 : h.1 K 5 = (s : Int)) (h3 : h.1 K 3 = (x : Int)) (hsx : s ≤ x) (hx : x ≤ len) {n : Nat} (hn : n < 12) : q_X6_isWord h K n = some (if h.1 K 4 = 1 ∧ Mtb t s x n = true then 1 else 0) := by
  have hl := wln_b n hn
  have h1000 := hb.1
  unfold q_X6_isWord
  by_cases h4 : h.1 K 4 = 1
  · have wz : zw ((x : Int) - (s : Int)) = (x : Int) - (s : Int) := zw_id ⟨by omega, by omega⟩
    rw [if_pos h4, e0_len (by omega), zbp_some, h3, h5, wz]
    clear wz
    by_cases hd : (x : Int) - (s : Int) = (wln n : Int)
    · rw [if_pos hd]
      have key := zfind0 (L := fun f i => q_X6_isWord_L28 h K n (fun _ => some 1) f i) (N := wln n) (fun j => decide (t (s + j) ≠ wch n j)) (r := fun _ => some (0 : Int)) (kf := some (1 : Int)) (by omega) (fun f i hi => ?_) (fun f => ?_)
      · have key' : q_X6_isWord_L28 h K n (fun _ => some 1) zF 0 = _ := key
        rw [key']
        rcases zfs_spec (P := fun j => decide (t (s + j) ≠ wch n j)) (wln n) 0 with ⟨z1, z2⟩ | ⟨k, z1, z2, z3, z4⟩
        · have hM : Mtb t s x n = true := Mtb_iff.mpr ⟨by omega, fun j hj => by
            have := z2 j (by omega) (by omega)
            rw [zdec] at this
            exact Classical.not_not.mp this⟩
          rw [z1, if_pos ⟨h4, hM⟩]
        · have hM : ¬ (h.1 K 4 = 1 ∧ Mtb t s x n = true) := fun y => by
            rw [zdec] at z4
            exact z4 ((Mtb_iff.mp y.2).2 k (by omega))
          rw [z1, if_neg hM]
      · have hii : i < 1000000 := by omega
        have wsi : zw ((s : Int) + (i : Int)) = ((s + i : Nat) : Int) := zw_c (by omega)
        show q_X6_isWord_L28 h K n (fun _ => some 1) (f + 1) (i : Int) = _
        rw [q_X6_isWord_L28, e0_len (by omega), zbp_some, if_neg (by clear wsi; omega), h5, wsi, e6_sign hb hc, chr_in (by clear wsi; omega), zbp_some, e0_chr (by clear wsi; omega) hi, zbp_some]
        simp only [zlet_b, zdec]
        rw [zw_s hii]
        by_cases e : t (s + i) = wch n i
        · rw [if_pos e, if_neg (fun z => z e)]
        · rw [if_neg e, if_pos e]
      · show q_X6_isWord_L28 h K n (fun _ => some 1) (f + 1) (wln n : Int) = _
        rw [q_X6_isWord_L28, e0_len (by omega), zbp_some, if_pos (Int.le_refl _)]
    · have hM : ¬ (h.1 K 4 = 1 ∧ Mtb t s x n = true) := fun y => hd (by
        have := (Mtb_iff.mp y.2).1
        omega)
      rw [if_neg hd, if_neg hM]
  · rw [if_neg h4, if_neg (fun y => h4 y.1)]
/-- the reference compares with one word -/
theorem m_w15 (hb : Tb t len) (hc : TxR M t len g) {s x : Nat} (h11 : g.1 M 11 = (s : Int)) (h10 : g.1 M 10 = (x : Int)) (hsx : s ≤ x) (hx : x ≤ len) {n : Nat} (hn : n < 12) {k : Int → Option Int} : ∀ (r i f : Nat), i + r = wln n → r < f →
    ∃ j, i ≤ j ∧ j ≤ wln n ∧ q_X8_wordHere_L15 g M (n : Int) ((wof n : Nat) : Int) k f (i : Int) = k (j : Int) ∧ (∀ l, i ≤ l → l < j → s + l < x ∧ t (s + l) = wch n l) ∧ (j = wln n ∨ x ≤ s + j ∨ t (s + j) ≠ wch n j) := by
  have hl := wln_b n hn
  have ho := wof_s n hn
  have h1000 := hb.1
  have h79 : wln 12 = 79 := by decide
  intro r
  induction r with
  | zero =>
    intro i f q1 q2
    obtain ⟨f', rfl⟩ : ∃ f', f = f' + 1 := ⟨f - 1, by omega⟩
    have e : i = wln n := by omega
    have wk : zw (((wof n : Nat) : Int) + (i : Int)) = ((wof n + i : Nat) : Int) := zw_c (by omega)
    have hsp := wch_sp n hn
    refine ⟨i, Nat.le_refl _, by omega, ?_, fun l z1 z2 => by omega, Or.inl e⟩
    rw [q_X8_wordHere_L15, wk, e0_chr (by decide) (by clear wk; omega), zbp_some, e, hsp, if_pos rfl]
  | succ r ih =>
    intro i f q1 q2
    obtain ⟨f', rfl⟩ : ∃ f', f = f' + 1 := ⟨f - 1, by omega⟩
    have hiw : i < wln n := by omega
    have hii : i < 1000000 := by omega
    have wk : zw (((wof n : Nat) : Int) + (i : Int)) = ((wof n + i : Nat) : Int) := zw_c (by omega)
    have wsi : zw ((s : Int) + (i : Int)) = ((s + i : Nat) : Int) := by clear wk; exact zw_c (by omega)
    obtain ⟨c1, c2⟩ := wch_12 n hn i (by clear wk wsi; omega) hiw
    have hch := e0_chr (n := 12) (j := wof n + i) (by decide) (by clear wk wsi; omega)
    rw [c1] at hch
    have step : q_X8_wordHere_L15 g M (n : Int) ((wof n : Nat) : Int) k (f' + 1) (i : Int) = if x ≤ s + i then k (i : Int) else if t (s + i) = wch n i then q_X8_wordHere_L15 g M (n : Int) ((wof n : Nat) : Int) k f' ((i + 1 : Nat) : Int) else k (i : Int) := by
      rw [q_X8_wordHere_L15, wk, hch, zbp_some, if_neg c2, h10, h11, wsi]
      by_cases q : x ≤ s + i
      · rw [if_pos (by clear wk wsi; omega), if_pos q]
      · have hsi : s + i < 1000 := by clear wk wsi; omega
        rw [if_neg (by clear wk wsi; omega), if_neg q, zgpos hsi, zbp_some, Int.toNat_natCast, hc.2.1, hc.2.2 (s + i) (by clear wk wsi; omega)]
        simp only [zlet_b]
        rw [zw_s hii]
    clear wk wsi
    rw [step]
    by_cases q : x ≤ s + i
    · rw [if_pos q]
      exact ⟨i, Nat.le_refl _, by omega, rfl, fun l z1 z2 => by omega, Or.inr (Or.inl q)⟩
    · rw [if_neg q]
      by_cases e : t (s + i) = wch n i
      · rw [if_pos e]
        obtain ⟨j, p1, p2, p3, p4, p5⟩ := ih (i + 1) f' (by omega) (by omega)
        refine ⟨j, by omega, p2, p3, fun l z1 z2 => ?_, p5⟩
        by_cases el : l = i
        · rw [el]; exact ⟨by omega, e⟩
        · exact p4 l (by omega) z2
      · rw [if_neg e]
        exact ⟨i, Nat.le_refl _, by omega, rfl, fun l z1 z2 => by omega, Or.inr (Or.inr e)⟩
theorem m_w97 {n : Nat} (hn : n < 12) {i1 : Int} {k : Int → Option Int} : ∀ (r i f : Nat), i + r = wln n → r < f → q_X8_wordHere_L97 g M i1 k f ((wof n + i : Nat) : Int) = k ((wof n + wln n : Nat) : Int) := by
  have hl := wln_b n hn
  have ho := wof_s n hn
  have h79 : wln 12 = 79 := by decide
  intro r
  induction r with
  | zero =>
    intro i f q1 q2
    obtain ⟨f', rfl⟩ : ∃ f', f = f' + 1 := ⟨f - 1, by omega⟩
    have e : i = wln n := by omega
    have hsp := wch_sp n hn
    rw [q_X8_wordHere_L97, e0_chr (by decide) (by omega), zbp_some, e, hsp, if_pos rfl]
  | succ r ih =>
    intro i f q1 q2
    obtain ⟨f', rfl⟩ : ∃ f', f = f' + 1 := ⟨f - 1, by omega⟩
    obtain ⟨c1, c2⟩ := wch_12 n hn i (by omega) (by omega)
    rw [q_X8_wordHere_L97, e0_chr (by decide) (by omega), zbp_some, c1, if_neg c2]
    simp only [zlet_b]
    rw [zw_s (by omega)]
    exact ih (i + 1) f' (by omega) (by omega)
theorem m_w4 (hb : Tb t len) (hc : TxR M t len g) {s x : Nat} (h11 : g.1 M 11 = (s : Int)) (h10 : g.1 M 10 = (x : Int)) (hsx : s ≤ x) (hx : x ≤ len) : ∀ (r n f : Nat), n + r = 12 → r < f →
    q_X8_wordHere_L4 g M (fun _ _ => some (-1)) f (n : Int) ((wof n : Nat) : Int) = some (match zfs (Mtb t s x) r n with | none => -1 | some m => (m : Int)) := by
  have h1000 := hb.1
  have h79 : wln 12 = 79 := by decide
  intro r
  induction r with
  | zero =>
    intro n f q1 q2
    obtain ⟨f', rfl⟩ : ∃ f', f = f' + 1 := ⟨f - 1, by omega⟩
    have e : n = 12 := by omega
    subst e
    rw [q_X8_wordHere_L4, e0_len (by decide), zbp_some, h79]
    exact if_pos (by decide)
  | succ r ih =>
    intro n f q1 q2
    obtain ⟨f', rfl⟩ : ∃ f', f = f' + 1 := ⟨f - 1, by omega⟩
    have hn : n < 12 := by omega
    have hl := wln_b n hn
    obtain ⟨ho1, ho2⟩ := wof_s n hn
    have hlF : wln n < zF := by unfold zF; omega
    have hn6 : n < 1000000 := by omega
    have nxt : ∀ K2 : Int → Option Int, (∀ y, K2 y = zlet (zw (y + 1)) (fun x15 => zlet (zw ((n : Int) + 1)) (fun x16 => q_X8_wordHere_L4 g M (fun _ _ => some (-1)) f' x16 x15))) → q_X8_wordHere_L97 g M (n : Int) K2 zF ((wof n : Nat) : Int) = some (match zfs (Mtb t s x) r (n + 1) with | none => -1 | some m => (m : Int)) := fun K2 hK2 => by
      have a := m_w97 (g := g) (M := M) hn (i1 := (n : Int)) (k := K2) (wln n) 0 zF (Nat.zero_add _) hlF
      rw [Nat.add_zero] at a
      rw [a, hK2]
      simp only [zlet_b]
      have hw6 : wof n + wln n < 1000000 := by omega
      rw [zw_s hw6, zw_s hn6, ← ho1]
      exact ih (n + 1) f' (by omega) (by omega)
    have hle : ¬ (79 : Int) ≤ ((wof n : Nat) : Int) := by omega
    have go := fun (k : Int → Option Int) => m_w15 hb hc h11 h10 hsx hx hn (k := k) (wln n) 0 zF (Nat.zero_add _) hlF
    rw [q_X8_wordHere_L4, e0_len (by decide), zbp_some, h79]
    have e79 : ¬ ((79 : Nat) : Int) ≤ ((wof n : Nat) : Int) := hle
    rw [if_neg e79]
    obtain ⟨j, p1, p2, p3, p4, p5⟩ := go (fun x5 => zbp (q_J0_charAt 12 (zw (((wof n : Nat) : Int) + x5))) (fun x6 => if x6 = 32 then (if zw (g.1 M 11 + x5) = g.1 M 10 then (some (n : Int)) else (q_X8_wordHere_L97 g M (n : Int) (fun x13 => zlet (zw (x13 + 1)) (fun x15 => zlet (zw ((n : Int) + 1)) (fun x16 => q_X8_wordHere_L4 g M (fun _ _ => some (-1)) f' x16 x15))) zF ((wof n : Nat) : Int))) else (q_X8_wordHere_L97 g M (n : Int) (fun x9 => zlet (zw (x9 + 1)) (fun x11 => zlet (zw ((n : Int) + 1)) (fun x12 => q_X8_wordHere_L4 g M (fun _ _ => some (-1)) f' x12 x11))) zF ((wof n : Nat) : Int))))
    have p3' := p3
    rw [show ((0 : Nat) : Int) = 0 from rfl] at p3'
    rw [p3']
    have wk : zw (((wof n : Nat) : Int) + (j : Int)) = ((wof n + j : Nat) : Int) := zw_c (by omega)
    have wsj : zw ((s : Int) + (j : Int)) = ((s + j : Nat) : Int) := by clear wk; exact zw_c (by omega)
    rw [wk, e0_chr (by decide) (by clear wk wsj; omega), zbp_some, h11, h10, wsj]
    clear wk wsj
    unfold zfs
    by_cases hM : Mtb t s x n = true
    · obtain ⟨m1, m2⟩ := Mtb_iff.mp hM
      have ej : j = wln n := by
        rcases p5 with z | z | z
        · exact z
        · omega
        · by_cases hj : j < wln n
          · exact absurd (m2 j hj) z
          · omega
      rw [if_pos hM, ej, wch_sp n hn, if_pos rfl, if_pos (by omega)]
    · rw [if_neg hM]
      by_cases ej : j = wln n
      · rw [ej, wch_sp n hn, if_pos rfl]
        have hne : ¬ ((s + wln n : Nat) : Int) = (x : Int) := fun z => hM (Mtb_iff.mpr ⟨by omega, fun l hl2 => (p4 l (Nat.zero_le _) (by omega)).2⟩)
        rw [if_neg hne]
        exact nxt _ (fun _ => rfl)
      · obtain ⟨c1, c2⟩ := wch_12 n hn j (by omega) (by omega)
        rw [c1, if_neg c2]
        exact nxt _ (fun _ => rfl)
theorem e8_wordHere (hb : Tb t len) (hc : TxR M t len g) {s x : Nat} (h11 : g.1 M 11 = (s : Int)) (h10 : g.1 M 10 = (x : Int)) (hsx : s ≤ x) (hx : x ≤ len) : q_X8_wordHere g M = some (wdx t s x) := by
  unfold q_X8_wordHere
  exact m_w4 hb hc h11 h10 hsx hx 12 0 zF (by omega) (by unfold zF; omega)
end TK
