/-! Names and settings as words. -/
theorem sNamed_b {v : Nat → Nat → Int} {x : Int} : sNamed v x = -1 ∨ ∃ k, k < nSt v ∧ sNamed v x = (k : Int) := by
  unfold sNamed
  rcases zfs_spec (P := fun k => decide (v (5 + 2 * k) 0 = x)) (nSt v) 0 with ⟨z1, z2⟩ | ⟨k, z1, z2, z3, z4⟩
  · rw [z1]; exact Or.inl rfl
  · rw [z1]; exact Or.inr ⟨k, by omega, rfl⟩
section TOT
variable {h : zH} {K : Nat}
theorem tot_sign (x : Int) : ∃ c, q_X6_signAt h K x = some c := by
  unfold q_X6_signAt
  by_cases a : x < 0
  · rw [if_pos a]; exact ⟨_, rfl⟩
  · rw [if_neg a]
    by_cases b : h.1 K 2 ≤ x
    · rw [if_pos b]; exact ⟨_, rfl⟩
    · rw [if_neg b]
      by_cases c : 1000 ≤ x
      · rw [if_pos c]; exact ⟨_, rfl⟩
      · rw [if_neg c, zgi_pos (by omega) (by omega)]; exact ⟨_, rfl⟩
theorem tot_isWord {n : Nat} (hn : n < 12) : ∃ y, q_X6_isWord h K n = some y := by
  have hl := wln_b n hn
  have key : ∀ (r i f : Nat), i + r = wln n → r < f → ∃ y, q_X6_isWord_L28 h K n (fun _ => some 1) f (i : Int) = some y := by
    intro r
    induction r with
    | zero =>
      intro i f q1 q2
      obtain ⟨f', rfl⟩ : ∃ f', f = f' + 1 := ⟨f - 1, by omega⟩
      have e : i = wln n := by omega
      refine ⟨1, ?_⟩
      rw [q_X6_isWord_L28, e0_len (by omega), zbp_some, e, if_pos (Int.le_refl _)]
    | succ r ih =>
      intro i f q1 q2
      obtain ⟨f', rfl⟩ : ∃ f', f = f' + 1 := ⟨f - 1, by omega⟩
      obtain ⟨c, hc⟩ := tot_sign (h := h) (K := K) (zw (h.1 K 5 + (i : Int)))
      rw [q_X6_isWord_L28, e0_len (by omega), zbp_some, if_neg (by omega), hc, zbp_some, e0_chr (by omega) (by omega), zbp_some]
      simp only [zlet_b]
      rw [zw_s (by omega)]
      by_cases e : c = wch n i
      · rw [if_pos e]
        exact ih (i + 1) f' (by omega) (by omega)
      · rw [if_neg e]
        exact ⟨0, rfl⟩
  unfold q_X6_isWord
  by_cases a : h.1 K 4 = 1
  · rw [if_pos a, e0_len (by omega), zbp_some]
    by_cases b : zw (h.1 K 3 - h.1 K 5) = (wln n : Int)
    · rw [if_pos b]
      exact key (wln n) 0 zF (Nat.zero_add _) (by unfold zF; omega)
    · rw [if_neg b]; exact ⟨0, rfl⟩
  · rw [if_neg a]; exact ⟨0, rfl⟩
theorem e2_word {i : Nat} (hi : i < 7) : q_X2_settingWord h (i : Int) = some (5 + i) := by
  unfold q_X2_settingWord
  obtain rfl | rfl | rfl | rfl | rfl | rfl | rfl : i = 0 ∨ i = 1 ∨ i = 2 ∨ i = 3 ∨ i = 4 ∨ i = 5 ∨ i = 6 := by omega
  all_goals decide
theorem tot_setting {L : Nat} : ∃ y, q_X2_settingHere h L = some y := by
  have key : ∀ (r i f : Nat), i + r = 7 → r < f → ∃ y, q_X2_settingHere_L2 h L (fun _ => some (-1)) f (i : Int) = some y := by
    intro r
    induction r with
    | zero =>
      intro i f q1 q2
      obtain ⟨f', rfl⟩ : ∃ f', f = f' + 1 := ⟨f - 1, by omega⟩
      have e : i = 7 := by omega
      subst e
      refine ⟨-1, ?_⟩
      rw [q_X2_settingHere_L2]
      exact if_pos (by decide)
    | succ r ih =>
      intro i f q1 q2
      obtain ⟨f', rfl⟩ : ∃ f', f = f' + 1 := ⟨f - 1, by omega⟩
      obtain ⟨y, hy⟩ := tot_isWord (h := h) (K := h.2 L 0) (n := 5 + i) (by omega)
      rw [q_X2_settingHere_L2, if_neg (by omega), e2_word (by omega), zbp_some, hy, zbp_some]
      simp only [zlet_b]
      rw [zw_s (by omega)]
      by_cases e : y = 0
      · rw [if_pos e]
        exact ih (i + 1) f' (by omega) (by omega)
      · rw [if_neg e]
        exact ⟨_, rfl⟩
  unfold q_X2_settingHere
  exact key 7 0 zF (by omega) (by unfold zF; omega)
theorem tot_packed : ∃ y, q_X6_packedLetters h K = some y := by
  have key : ∀ (r i f : Nat) (p : Int), i + r = 6 → r < f → ∃ y, q_X6_packedLetters_L4 h K (fun x7 _ => some x7) f p (i : Int) = some y := by
    intro r
    induction r with
    | zero =>
      intro i f p q1 q2
      obtain ⟨f', rfl⟩ : ∃ f', f = f' + 1 := ⟨f - 1, by omega⟩
      have e : i = 6 := by omega
      subst e
      refine ⟨p, ?_⟩
      rw [q_X6_packedLetters_L4]
      exact if_pos (by decide)
    | succ r ih =>
      intro i f p q1 q2
      obtain ⟨f', rfl⟩ : ∃ f', f = f' + 1 := ⟨f - 1, by omega⟩
      obtain ⟨c, hc⟩ := tot_sign (h := h) (K := K) (zw (h.1 K 5 + (i : Int)))
      rw [q_X6_packedLetters_L4, if_neg (by omega), hc]
      simp only [zlet_b, zbp_some]
      rw [zw_s (by omega)]
      split
      · exact ih (i + 1) f' _ (by omega) (by omega)
      · exact ih (i + 1) f' _ (by omega) (by omega)
  unfold q_X6_packedLetters
  exact key 6 0 zF 0 (by omega) (by unfold zF; omega)
theorem tot_short : ∃ y, q_X6_isShortWord h K = some y := by
  unfold q_X6_isShortWord
  split
  · split
    · exact ⟨_, rfl⟩
    · exact ⟨_, rfl⟩
  · exact ⟨_, rfl⟩
/-- after an error a name is read without any effect -/
theorem tot_name {L : Nat} (h3 : ¬ h.1 L 3 = 0) : ∃ y, q_X2_readName h L = some (y, h) := by
  have noC : ∀ c : Int, q_X2_fail h L c = some ((), h) := fun c => by
    unfold q_X2_fail
    rw [if_neg h3]
  obtain ⟨a, ha⟩ := tot_short (h := h) (K := h.2 L 0)
  obtain ⟨b, hb⟩ := tot_isWord (h := h) (K := h.2 L 0) (n := 2) (by decide)
  obtain ⟨c, hc⟩ := tot_isWord (h := h) (K := h.2 L 0) (n := 3) (by decide)
  obtain ⟨d, hd⟩ := tot_isWord (h := h) (K := h.2 L 0) (n := 4) (by decide)
  obtain ⟨e, he⟩ := tot_setting (h := h) (L := L)
  obtain ⟨p, hp⟩ := tot_packed (h := h) (K := h.2 L 0)
  unfold q_X2_readName
  rw [ha, hb, hc, hd, he, hp]
  simp only [zbp_some, noC, zbd_some]
  split
  · exact ⟨_, rfl⟩
  · split
    · split
      · split
        · split
          · exact ⟨_, rfl⟩
          · exact ⟨_, rfl⟩
        · exact ⟨_, rfl⟩
      · exact ⟨_, rfl⟩
    · exact ⟨_, rfl⟩
end TOT
/-- a word's letters as a number -/
def pk (t : Nat → Int) (s x : Nat) (i : Nat) : Int := zit (fun (p : Int) i => zor (zshl p 5) (if x ≤ s + i then 0 else zw (zw (t (s + i) - 97) + 1))) i 0
theorem pk_s {t : Nat → Int} {s x i : Nat} : pk t s x (i + 1) = zor (zshl (pk t s x i) 5) (if x ≤ s + i then 0 else zw (zw (t (s + i) - 97) + 1)) := rfl
section TK
variable {K M : Nat} {t : Nat → Int} {len : Nat} {h g : zH}
theorem e6_packed (hb : Tb t len) (hc : TxC K t len h) {s x : Nat} (h5 : h.1 K 5 = (s : Int)) (h3 : h.1 K 3 = (x : Int)) (hsx : s ≤ x) (hx : x ≤ len) : q_X6_packedLetters h K = some (pk t s x 6) := by
  have h1000 := hb.1
  have key : ∀ (r i f : Nat), i + r = 6 → r < f → q_X6_packedLetters_L4 h K (fun x7 _ => some x7) f (pk t s x i) (i : Int) = some (pk t s x 6) := by
    intro r
    induction r with
    | zero =>
      intro i f q1 q2
      obtain ⟨f', rfl⟩ : ∃ f', f = f' + 1 := ⟨f - 1, by omega⟩
      have e : i = 6 := by omega
      subst e
      rw [q_X6_packedLetters_L4]
      exact if_pos (by decide)
    | succ r ih =>
      intro i f q1 q2
      obtain ⟨f', rfl⟩ : ∃ f', f = f' + 1 := ⟨f - 1, by omega⟩
      have hii : i < 1000000 := by omega
      have hn6 : ¬ (6 : Int) ≤ (i : Int) := by omega
      have wsi : zw ((s : Int) + (i : Int)) = ((s + i : Nat) : Int) := zw_c (by omega)
      have hnx := ih (i + 1) f' (by omega) (by omega)
      rw [pk_s] at hnx
      rw [q_X6_packedLetters_L4, if_neg hn6, h3, h5, wsi, e6_sign hb hc]
      simp only [zlet_b, zbp_some]
      rw [zw_s hii]
      by_cases q : x ≤ s + i
      · rw [if_pos q] at hnx
        rw [if_pos (by clear wsi; omega)]
        exact hnx
      · rw [if_neg q] at hnx
        rw [if_neg (by clear wsi; omega), chr_in (by clear wsi; omega)]
        exact hnx
  unfold q_X6_packedLetters
  exact key 6 0 zF (by omega) (by unfold zF; omega)
theorem e8_packed (hb : Tb t len) (hr : TxR M t len g) (h15 : g.1 M 15 = 0) {s x : Nat} (h11 : g.1 M 11 = (s : Int)) (h10 : g.1 M 10 = (x : Int)) (hsx : s ≤ x) (hx : x ≤ len) : q_X8_seesName_L47 M (fun _ h16 => some ((), h16)) zF 0 (zput g M 14 0) = some ((), zput g M 14 (pk t s x 6)) := by
  have h1000 := hb.1
  have key : ∀ (r i f : Nat), i + r = 6 → r < f → q_X8_seesName_L47 M (fun _ h16 => some ((), h16)) f (i : Int) (zput g M 14 (pk t s x i)) = some ((), zput g M 14 (pk t s x 6)) := by
    intro r
    induction r with
    | zero =>
      intro i f q1 q2
      obtain ⟨f', rfl⟩ : ∃ f', f = f' + 1 := ⟨f - 1, by omega⟩
      have e : i = 6 := by omega
      subst e
      rw [q_X8_seesName_L47]
      exact if_pos (by decide)
    | succ r ih =>
      intro i f q1 q2
      obtain ⟨f', rfl⟩ : ∃ f', f = f' + 1 := ⟨f - 1, by omega⟩
      have hii : i < 1000000 := by omega
      have hn6 : ¬ (6 : Int) ≤ (i : Int) := by omega
      have wsi : zw ((s : Int) + (i : Int)) = ((s + i : Nat) : Int) := zw_c (by omega)
      have hnx := ih (i + 1) f' (by omega) (by omega)
      rw [pk_s] at hnx
      have e15 : (zput g M 14 (pk t s x i)).1 M 15 = 0 := by rw [zput_ne (by clear wsi; omega), h15]
      have e10 : (zput g M 14 (pk t s x i)).1 M 10 = (x : Int) := by rw [zput_ne (by clear wsi; omega), h10]
      have e11 : (zput g M 14 (pk t s x i)).1 M 11 = (s : Int) := by rw [zput_ne (by clear wsi; omega), h11]
      have e14 : (zput g M 14 (pk t s x i)).1 M 14 = pk t s x i := zput_self
      rw [q_X8_seesName_L47, if_neg hn6, e15, if_pos rfl, e10, e11, e14, wsi]
      simp only [zlet_b]
      rw [zput_put, zput_put, zput_2, hr.2.1, zw_s hii]
      by_cases q : x ≤ s + i
      · rw [if_pos q] at hnx
        rw [if_pos (by clear wsi; omega)]
        exact hnx
      · rw [if_neg q] at hnx
        have ht : (zput g M 14 (pk t s x i)).1 (M + 1) (s + i) = t (s + i) := by rw [zput_ne (by clear wsi; omega), hr.2.2 _ (by clear wsi; omega)]
        rw [if_neg (by clear wsi; omega), zgpos (by clear wsi; omega), Int.toNat_natCast, ht]
        exact hnx
  exact key 6 0 zF (by omega) (by unfold zF; omega)
theorem e2_setting {L : Nat} (hK : h.2 L 0 = K) (hb : Tb t len) (hc : TxC K t len h) {s x : Nat} (h5 : h.1 K 5 = (s : Int)) (h3 : h.1 K 3 = (x : Int)) (hsx : s ≤ x) (hx : x ≤ len) : q_X2_settingHere h L = some (if h.1 K 4 = 1 ∧ 5 ≤ wdx t s x then wdx t s x - 5 else -1) := by
  have key := zfind0 (L := fun f i => q_X2_settingHere_L2 h L (fun _ => some (-1)) f i) (N := 7) (fun i => decide (h.1 K 4 = 1 ∧ Mtb t s x (5 + i) = true)) (r := fun i => some (i : Int)) (kf := some (-1 : Int)) (by omega) (fun f i hi => ?_) (fun f => ?_)
  · unfold q_X2_settingHere
    refine key.trans ?_
    rcases zfs_spec (P := fun i => decide (h.1 K 4 = 1 ∧ Mtb t s x (5 + i) = true)) 7 0 with ⟨z1, z2⟩ | ⟨k, z1, z2, z3, z4⟩
    · have hn : ¬ (h.1 K 4 = 1 ∧ 5 ≤ wdx t s x) := fun y => by
        rcases wdx_b (t := t) (s := s) (x := x) with e | ⟨n, n1, n2⟩
        · omega
        · have := z2 (n - 5) (by omega) (by omega)
          rw [zdec] at this
          refine this ⟨y.1, ?_⟩
          rw [show 5 + (n - 5) = n by omega]
          exact (wdx_iff n1).mpr n2
      rw [z1, if_neg hn]
    · rw [zdec] at z4
      have e := (wdx_iff (by omega)).mp z4.2
      rw [z1, if_pos ⟨z4.1, by omega⟩]
      show some (k : Int) = _
      congr 1
      omega
  · have hii : i < 1000000 := by omega
    show q_X2_settingHere_L2 h L (fun _ => some (-1)) (f + 1) (i : Int) = _
    rw [q_X2_settingHere_L2, if_neg (by omega), e2_word hi, zbp_some, hK, e6_isWord hb hc h5 h3 hsx hx (by omega), zbp_some]
    simp only [zlet_b, zdec]
    rw [zw_s hii]
    by_cases q : h.1 K 4 = 1 ∧ Mtb t s x (5 + i) = true
    · rw [if_pos q, if_neg one0, if_pos q]
    · rw [if_neg q, if_pos rfl, if_neg q]
  · show q_X2_settingHere_L2 h L (fun _ => some (-1)) (f + 1) ((7 : Nat) : Int) = _
    rw [q_X2_settingHere_L2]
    exact if_pos (by decide)
end TK
section OPS
variable {B : Nat} {t : Nat → Int} {len : Nat}
theorem e8_foundR {g : zH} {U : Nat → Nat → Int} (hm : MVt g (B + 541) U (g.1 (B + 541 + 3))) (x : Int) : q_X8_found g (g.2 (B + 541) 4) x = some (sNamed U x) := by
  have hn := hm.2.1.nS
  have e4 : g.2 (B + 541) 4 = B + 541 + 3 := hm.1 4
  have e62 : g.1 (B + 541 + 3) 62 = (nSt U : Int) := by rw [hm.2.2.2.2.1, hn.1]
  rw [e4]
  have key := zfind0 (L := fun n i => q_X8_found_L2 g (B + 541 + 3) x (fun _ => some (-1)) n i) (N := nSt U) (fun k => decide (U (5 + 2 * k) 0 = x)) (r := fun k => some (k : Int)) (kf := some (-1)) (by omega) (fun n i hi => ?_) (fun n => ?_)
  · unfold q_X8_found
    refine key.trans ?_
    unfold sNamed
    generalize zfs _ _ _ = o
    cases o <;> rfl
  · have e0 : zw (0 + (i : Int)) = ((i : Nat) : Int) := by rw [Int.zero_add, zw_id ⟨by omega, by omega⟩]
    have t0 := (hm.2.2.2.2.2.2.2.2.1 i (by omega)).1
    show q_X8_found_L2 g _ x _ (n + 1) (i : Int) = _
    rw [q_X8_found_L2]
    simp only [zlet_b]
    rw [e62, if_neg (by omega), e0, zgi_pos (by omega) (by omega), Int.toNat_natCast, t0, zw_s (by omega)]
    by_cases hq : U (5 + 2 * i) 0 = x
    · rw [if_pos hq, if_pos (by rw [decide_eq_true_eq]; exact hq)]
    · rw [if_neg hq, if_neg (by rw [decide_eq_true_eq]; exact hq)]
  · show q_X8_found_L2 g _ x _ (n + 1) (nSt U : Int) = _
    rw [q_X8_found_L2, e62, if_pos (Int.le_refl _)]
def FrN (B : Nat) (g g' : zH) : Prop := g'.2 = g.2 ∧ ∀ q j, ¬ (q = B + 541 ∧ 10 ≤ j ∧ j ≤ 16) → g'.1 q j = g.1 q j
theorem FrN.tr {g g' g'' : zH} (a : FrN B g g') (b : FrN B g' g'') : FrN B g g'' := ⟨b.1.trans a.1, fun q j z1 => (b.2 q j z1).trans (a.2 q j z1)⟩
theorem FrP.n {g g' : zH} (a : FrP B g g') : FrN B g g' := ⟨a.1, fun q j z => a.2 q j (fun y => z ⟨y.1, by omega⟩)⟩
theorem FrN.w {g g' : zH} (a : FrN B g g') : FrW B g g' := ⟨a.1, fun q j z1 _ _ _ => a.2 q j (fun y => z1 ⟨y.1, by omega⟩)⟩
theorem j_name {U : Nat → Nat → Int} {cg sg : Int} {h g : zH} (hJ : LJ B t len U cg sg h g) : ∃ h' g' y, q_X2_readName h (B + 497) = some (y, h') ∧ q_X8_seesName g (B + 541) = some ((), g') ∧ LJ B t len U cg sg h' g' ∧ FcP B h h' ∧ FrN B g g' ∧ (h'.1 (B + 497) 3 = 0 → h.1 (B + 497) 3 = 0 ∧ h.1 (B + 498) 5 ≤ h'.1 (B + 498) 5 ∧ g'.1 (B + 541) 14 = y) := by
  have hC := hJ.1
  have r0 := hC.2.2.2.1
  have f14 : ∀ (g : zH) (x : Int), FrN B g (zput g (B + 541) 14 x) := fun g x => ⟨rfl, fun q j z => zput_ne (fun y => z ⟨y.1, by omega⟩)⟩
  by_cases z : h.1 (B + 497) 3 = 0
  · obtain ⟨j1, j2, j3, ⟨s, x, κ, tk⟩, j5, j6, j7⟩ := hJ.mode z
    have hk := kr_i κ tk.2.2.2.1
    have k4 := tk.1.2.1
    have k12 := tk.2.1.2.2
    have h1000 := hC.1.1
    have hsx := tk.2.2.1
    have wz : zw ((x : Int) - (s : Int)) = (x : Int) - (s : Int) := zw_id ⟨by omega, by omega⟩
    have hsh : q_X6_isShortWord h (B + 498) = some (if κ = 1 ∧ x - s ≤ 6 then 1 else 0) := by
      unfold q_X6_isShortWord
      rw [k4, tk.1.1, tk.1.2.2, wz]
      clear wz
      by_cases a : κ = 1
      · rw [if_pos (by omega)]
        by_cases b : x - s ≤ 6
        · rw [if_neg (by omega), if_pos ⟨a, b⟩]
        · rw [if_pos (by omega), if_neg (fun y => b y.2)]
      · rw [if_neg (by omega), if_neg (fun y => a y.1)]
    have hw : ∀ n, n < 12 → q_X6_isWord h (B + 498) n = some (if h.1 (B + 498) 4 = 1 ∧ Mtb t s x n = true then 1 else 0) := fun n hn => e6_isWord hC.1 hC.2.1 tk.1.2.2 tk.1.1 hsx.1 hsx.2 hn
    have hset := e2_setting (L := B + 497) r0 hC.1 hC.2.1 tk.1.2.2 tk.1.1 hsx.1 hsx.2
    by_cases ok : κ = 1 ∧ wdx t s x = -1 ∧ x - s ≤ 6
    · obtain ⟨o1, o2, o3⟩ := ok
      have nw : ∀ n, n < 12 → ¬ (h.1 (B + 498) 4 = 1 ∧ Mtb t s x n = true) := fun n hn y => by
        have := (wdx_iff hn).mp y.2
        omega
      have c12 : g.1 (B + 541) 12 = 0 := by rw [k12]; exact hk.2.1.mpr o1
      have c13 : g.1 (B + 541) 13 = -1 := by rw [tk.2.2.2.2.2.1 o1]; exact o2
      refine ⟨h, zput g (B + 541) 14 (pk t s x 6), pk t s x 6, ?_, ?_, hJ.p18 (Or.inl rfl), FcP.rf, f14 _ _, fun _ => ⟨z, Int.le_refl _, zput_self⟩⟩
      · unfold q_X2_readName
        rw [r0, hsh, if_pos ⟨o1, o3⟩, zbp_some, if_neg one0, hw 2 (by decide), if_neg (nw 2 (by decide)), zbp_some, if_pos rfl, hw 3 (by decide), if_neg (nw 3 (by decide)), zbp_some, if_pos rfl, hw 4 (by decide), if_neg (nw 4 (by decide)), zbp_some, if_pos rfl, hset, if_neg (fun y => by have := y.2; omega), zbp_some, if_pos rfl, e6_packed hC.1 hC.2.1 tk.1.2.2 tk.1.1 hsx.1 hsx.2, zbp_some]
      · unfold q_X8_seesName
        rw [if_pos c12, if_pos c13, tk.2.1.1, tk.2.1.2.1, wz, if_pos (by clear wz; omega), j_ok, zbd_some]
        simp only [zlet_b]
        exact e8_packed hC.1 hC.2.2.1 j2 tk.2.1.2.1 tk.2.1.1 hsx.1 hsx.2
    · obtain ⟨h', g', f1, f2, f3, f4, f5, f6⟩ := j_fail hJ (c := -11) (by decide)
      obtain ⟨e, e0, e1, e2, e3⟩ := f4
      have J2 : LJ B t len U cg sg h' g' := ⟨f3, Or.inr ⟨e, e0, e1, e2, e3⟩⟩
      have bad : q_X2_readName h (B + 497) = some (0, h') := by
        unfold q_X2_readName
        rw [r0, hsh]
        by_cases o : κ = 1 ∧ x - s ≤ 6
        · have hn : wdx t s x ≠ -1 := fun y => ok ⟨o.1, y, o.2⟩
          obtain ⟨n, n1, n2⟩ : ∃ n : Nat, n < 12 ∧ wdx t s x = (n : Int) := (wdx_b (t := t) (s := s) (x := x)).resolve_left hn
          have hM := (wdx_iff n1).mpr n2
          have c4 : h.1 (B + 498) 4 = 1 := by rw [k4, o.1]; rfl
          have hl := (Mtb_iff.mp hM).1
          have n01 : 2 ≤ n := by
            have w0 : wln 0 = 8 := by decide
            have w1 : wln 1 = 7 := by decide
            by_cases a : n = 0
            · rw [a] at hl; omega
            · by_cases b : n = 1
              · rw [b] at hl; omega
              · omega
          rw [if_pos o, zbp_some, if_neg one0, hw 2 (by decide), zbp_some]
          by_cases d2 : h.1 (B + 498) 4 = 1 ∧ Mtb t s x 2 = true
          · rw [if_pos d2, if_neg one0, f1, zbd_some]
          · rw [if_neg d2, if_pos rfl, hw 3 (by decide), zbp_some]
            by_cases d3 : h.1 (B + 498) 4 = 1 ∧ Mtb t s x 3 = true
            · rw [if_pos d3, if_neg one0, f1, zbd_some]
            · rw [if_neg d3, if_pos rfl, hw 4 (by decide), zbp_some]
              by_cases d4 : h.1 (B + 498) 4 = 1 ∧ Mtb t s x 4 = true
              · rw [if_pos d4, if_neg one0, f1, zbd_some]
              · have n5 : 5 ≤ n := by
                  by_cases a2 : n = 2
                  · rw [a2] at hM; exact absurd ⟨c4, hM⟩ d2
                  · by_cases a3 : n = 3
                    · rw [a3] at hM; exact absurd ⟨c4, hM⟩ d3
                    · by_cases a4 : n = 4
                      · rw [a4] at hM; exact absurd ⟨c4, hM⟩ d4
                      · omega
                rw [if_neg d4, if_pos rfl, hset, if_pos ⟨c4, by omega⟩, zbp_some, if_neg (by omega), f1, zbd_some]
        · rw [if_neg o, zbp_some, if_pos rfl, f1, zbd_some]
      have ne15 : ¬ (zput g' (B + 541) 14 0).1 (B + 541) 15 = 0 := by rw [zput_ne (by omega)]; omega
      have loop : q_X8_seesName_L47 (B + 541) (fun _ h16 => some ((), h16)) zF 0 (zput g' (B + 541) 14 0) = some ((), zput g' (B + 541) 14 0) := by
        have key : ∀ f, 0 < f → q_X8_seesName_L47 (B + 541) (fun _ h16 => some ((), h16)) f 0 (zput g' (B + 541) 14 0) = some ((), zput g' (B + 541) 14 0) := fun f hf => by
          obtain ⟨f', rfl⟩ : ∃ f', f = f' + 1 := ⟨f - 1, by omega⟩
          rw [q_X8_seesName_L47, if_neg (by decide), if_neg ne15]
        exact key zF (by unfold zF; omega)
      refine ⟨h', zput g' (B + 541) 14 0, 0, bad, ?_, J2.p18 (Or.inl rfl), f5, f6.n.tr (f14 _ _), fun y => by omega⟩
      unfold q_X8_seesName
      by_cases a : g.1 (B + 541) 12 = 0
      · have hκ : κ = 1 := hk.2.1.mp (by rw [← k12]; exact a)
        rw [if_pos a]
        by_cases b : g.1 (B + 541) 13 = -1
        · have hwd : wdx t s x = -1 := by rw [← tk.2.2.2.2.2.1 hκ]; exact b
          have hle : ¬ x - s ≤ 6 := fun y => ok ⟨hκ, hwd, y⟩
          rw [if_pos b, tk.2.1.1, tk.2.1.2.1, wz, if_neg (by clear wz; omega), f2, zbd_some]
          simp only [zlet_b]
          exact loop
        · rw [if_neg b, f2, zbd_some]
          simp only [zlet_b]
          exact loop
      · rw [if_neg a, f2, zbd_some]
        simp only [zlet_b]
        exact loop
  · obtain ⟨y, hy⟩ := tot_name (h := h) (L := B + 497) z
    have n15 : ¬ g.1 (B + 541) 15 = 0 := fun w => z (hJ.e0.mpr w)
    have noF : ∀ y : Int, q_X8_failsIf g (B + 541) y (-11) = some ((), g) := fun y => by
      unfold q_X8_failsIf
      rw [if_neg n15]
    have ne15 : ¬ (zput g (B + 541) 14 0).1 (B + 541) 15 = 0 := by rw [zput_ne (by omega)]; exact n15
    have loop : q_X8_seesName_L47 (B + 541) (fun _ h16 => some ((), h16)) zF 0 (zput g (B + 541) 14 0) = some ((), zput g (B + 541) 14 0) := by
      have key : ∀ f, 0 < f → q_X8_seesName_L47 (B + 541) (fun _ h16 => some ((), h16)) f 0 (zput g (B + 541) 14 0) = some ((), zput g (B + 541) 14 0) := fun f hf => by
        obtain ⟨f', rfl⟩ : ∃ f', f = f' + 1 := ⟨f - 1, by omega⟩
        rw [q_X8_seesName_L47, if_neg (by decide), if_neg ne15]
      exact key zF (by unfold zF; omega)
    refine ⟨h, zput g (B + 541) 14 0, y, hy, ?_, hJ.p18 (Or.inl rfl), FcP.rf, f14 _ _, fun w => absurd w z⟩
    unfold q_X8_seesName
    simp only [noF, zbd_some, zlet_b]
    split
    · split
      · split
        · exact loop
        · exact loop
      · exact loop
    · exact loop
end OPS
