/-! A token more, on both sides. -/
def kr (κ : Nat) : Int := if κ = 0 then 4 else if κ = 1 then 0 else if κ = 2 then 1 else if κ = 3 then 2 else if κ = 4 then 3 else 5
theorem kr_i : ∀ κ, κ ≤ 5 → (kr κ = 1 ↔ κ = 2) ∧ (kr κ = 0 ↔ κ = 1) ∧ (kr κ = 2 ↔ κ = 3) ∧ (kr κ = 3 ↔ κ = 4) ∧ (kr κ = 4 ↔ κ = 0) := by decide
/-- the present token, from s to x, of kind κ -/
def Tok (K M : Nat) (t : Nat → Int) (len : Nat) (h g : zH) (s x κ : Nat) : Prop := (h.1 K 3 = (x : Int) ∧ h.1 K 4 = (κ : Int) ∧ h.1 K 5 = (s : Int)) ∧ (g.1 M 10 = (x : Int) ∧ g.1 M 11 = (s : Int) ∧ g.1 M 12 = kr κ) ∧ (s ≤ x ∧ x ≤ len) ∧ κ ≤ 5 ∧ (κ ≠ 0 → s < x) ∧ (κ = 1 → g.1 M 13 = wdx t s x) ∧ (κ = 2 → Vr (h.1 K 6) (g.1 M 13))
def FcS (K : Nat) (h h' : zH) : Prop := h'.2 = h.2 ∧ ∀ q j, ¬ (q = K ∧ 3 ≤ j ∧ j ≤ 6) → h'.1 q j = h.1 q j
def FrS (M : Nat) (g g' : zH) : Prop := g'.2 = g.2 ∧ ∀ q j, ¬ (q = M ∧ 10 ≤ j ∧ j ≤ 13) → g'.1 q j = g.1 q j
theorem FcS.rf {K : Nat} {h : zH} : FcS K h h := ⟨rfl, fun _ _ _ => rfl⟩
theorem FrS.rf {M : Nat} {g : zH} : FrS M g g := ⟨rfl, fun _ _ _ => rfl⟩
theorem FcS.put {K : Nat} {h h' : zH} (f : FcS K h h') {j : Nat} {x : Int} (hj : 3 ≤ j ∧ j ≤ 6) : FcS K h (zput h' K j x) := ⟨f.1, fun q i z => (zput_ne (fun y => z ⟨y.1, by omega⟩)).trans (f.2 q i z)⟩
theorem FrS.put {M : Nat} {g g' : zH} (f : FrS M g g') {j : Nat} {x : Int} (hj : 10 ≤ j ∧ j ≤ 13) : FrS M g (zput g' M j x) := ⟨f.1, fun q i z => (zput_ne (fun y => z ⟨y.1, by omega⟩)).trans (f.2 q i z)⟩
theorem j_step {K M : Nat} {t : Nat → Int} {len : Nat} {h g : zH} (hb : Tb t len) (hc : TxC K t len h) (hr : TxR M t len g) {x : Nat} (h3 : h.1 K 3 = (x : Int)) (g10 : g.1 M 10 = (x : Int)) (hx : x ≤ len) :
    ∃ h' g' s' x' κ, q_X6_step h K = some ((), h') ∧ q_X8_next g M = some ((), g') ∧ FcS K h h' ∧ FrS M g g' ∧ Tok K M t len h' g' s' x' κ ∧ x ≤ s' := by
  have h1000 := hb.1
  have hF : len < zF := by unfold zF; omega
  obtain ⟨x1, p1, p2, p3, p4⟩ := m_skip hb (k := fun h5 => zlet (zput h5 K 5 (h5.1 K 3)) (fun h7 => zbp (q_X6_signAt h7 K (h7.1 K 5)) (fun x8 => if h7.1 K 5 < h7.1 K 2 then (zbp (q_X6_isLetter h7 x8) (fun x9 => if x9 = 0 then (zbp (q_X6_isDigit h7 x8) (fun x10 => if x10 = 0 then (if x8 = 59 then (zlet (zput h7 K 4 3) (fun h15 => zlet (zput h15 K 3 (zw (h15.1 K 3 + 1))) (fun h16 => some ((), h16)))) else (if x8 = 45 then (zlet (zput h7 K 4 4) (fun h13 => zlet (zput h13 K 3 (zw (h13.1 K 3 + 1))) (fun h14 => some ((), h14)))) else (zlet (zput h7 K 4 5) (fun h11 => zlet (zput h11 K 3 (zw (h11.1 K 3 + 1))) (fun h12 => some ((), h12)))))) else (zlet (zput h7 K 4 2) (fun h17 => zlet (zput h17 K 6 0) (fun h18 => q_X6_step_L153 K (fun h24 => some ((), h24)) zF h18))))) else (zlet (zput h7 K 4 1) (fun h26 => q_X6_step_L98 K (fun h30 => some ((), h30)) zF h26)))) else (zlet (zput h7 K 4 0) (fun h32 => some ((), h32)))))) (k8 := fun h5 => zlet (zput h5 M 11 (h5.1 M 10)) (fun h7 => zbp (q_X8_here h7 M) (fun x8 => if x8 = (-1) then (zlet (zput h7 M 12 4) (fun h36 => some ((), h36))) else (zbp (q_X8_isSmall h7 x8) (fun x9 => if x9 = 0 then (zbp (q_X8_isDigit h7 x8) (fun x10 => if x10 = 0 then (if x8 = 59 then (zlet (zput h7 M 12 2) (fun h15 => zlet (zput h15 M 10 (zw (h15.1 M 10 + 1))) (fun h16 => some ((), h16)))) else (if x8 = 45 then (zlet (zput h7 M 12 3) (fun h13 => zlet (zput h13 M 10 (zw (h13.1 M 10 + 1))) (fun h14 => some ((), h14)))) else (zlet (zput h7 M 12 5) (fun h11 => zlet (zput h11 M 10 (zw (h11.1 M 10 + 1))) (fun h12 => some ((), h12)))))) else (zlet (zput h7 M 12 1) (fun h17 => zlet (zput h17 M 13 0) (fun h18 => q_X8_next_L120 M (fun h26 => some ((), h26)) zF h18))))) else (q_X8_next_L64 M (fun h31 => zlet (zput h31 M 12 0) (fun h33 => zbp (q_X8_wordHere h33 M) (fun x34 => zlet (zput h33 M 13 x34) (fun h35 => some ((), h35))))) zF h7)))))) (len - x) x zF zF h g (by omega) (by omega) (by omega) hc h3 hr g10
  unfold q_X6_step q_X8_next
  rw [p3, p4]
  clear p3 p4
  simp only [zlet_b]
  have c3 : (zput h K 3 (x1 : Int)).1 K 3 = (x1 : Int) := zput_self
  have c10 : (zput g M 10 (x1 : Int)).1 M 10 = (x1 : Int) := zput_self
  rw [c3, c10]
  have hc7 : TxC K t len (zput (zput h K 3 (x1 : Int)) K 5 (x1 : Int)) := (hc.put (by decide)).put (by decide)
  have hr7 : TxR M t len (zput (zput g M 10 (x1 : Int)) M 11 (x1 : Int)) := (hr.put (by decide)).put (by decide)
  have f7 : FcS K h (zput (zput h K 3 (x1 : Int)) K 5 (x1 : Int)) := (FcS.rf.put (by omega)).put (by omega)
  have r7 : FrS M g (zput (zput g M 10 (x1 : Int)) M 11 (x1 : Int)) := (FrS.rf.put (by omega)).put (by omega)
  have a3 : (zput (zput h K 3 (x1 : Int)) K 5 (x1 : Int)).1 K 3 = (x1 : Int) := by rw [zput_ne (by omega), c3]
  have a5 : (zput (zput h K 3 (x1 : Int)) K 5 (x1 : Int)).1 K 5 = (x1 : Int) := zput_self
  have b10 : (zput (zput g M 10 (x1 : Int)) M 11 (x1 : Int)).1 M 10 = (x1 : Int) := by rw [zput_ne (by omega), c10]
  have b11 : (zput (zput g M 10 (x1 : Int)) M 11 (x1 : Int)).1 M 11 = (x1 : Int) := zput_self
  clear c3 c10
  generalize zput (zput h K 3 (x1 : Int)) K 5 (x1 : Int) = h7 at hc7 f7 a3 a5
  generalize zput (zput g M 10 (x1 : Int)) M 11 (x1 : Int) = g7 at hr7 r7 b10 b11
  rw [a5, e6_sign hb hc7, e8_here hb hr7 b10, zbp_some, zbp_some, hc7.1]
  by_cases q : x1 < len
  · have q' : (x1 : Int) < (len : Int) := by omega
    have hch := hb.2 x1 q
    have ech : chr t len x1 = t x1 := chr_in q
    have hne : ¬ chr t len x1 = -1 := by rw [ech]; omega
    rw [if_pos q', if_neg hne, e6_let, e8_let, zbp_some, zbp_some]
    by_cases cl : 97 ≤ chr t len x1 ∧ chr t len x1 ≤ 122
    · obtain ⟨x2, o1, o2, o3, o4, o5⟩ := m_lett hb (k := fun h30 => some ((), h30)) (k8 := fun h31 => zbp (q_X8_wordHere (zput h31 M 12 0) M) (fun x34 => some ((), zput (zput h31 M 12 0) M 13 x34))) (len - x1) x1 zF zF (zput h7 K 4 1) g7 (by omega) (by omega) (by omega) (hc7.put (by decide)) (by rw [zput_ne (by omega), a3]) hr7 b10
      have lt := o3 cl
      rw [if_pos cl, if_neg one0, if_neg one0, o4, o5]
      have hrw : TxR M t len (zput (zput g7 M 10 (x2 : Int)) M 12 0) := (hr7.put (by decide)).put (by decide)
      have w11 : (zput (zput g7 M 10 (x2 : Int)) M 12 0).1 M 11 = (x1 : Int) := by rw [zput_ne (by omega), zput_ne (by omega), b11]
      have w10 : (zput (zput g7 M 10 (x2 : Int)) M 12 0).1 M 10 = (x2 : Int) := by rw [zput_ne (by omega), zput_self]
      rw [e8_wordHere hb hrw w11 w10 o1 o2, zbp_some]
      refine ⟨_, _, x1, x2, 1, rfl, rfl, (f7.put (j := 4) (by omega)).put (j := 3) (by omega), ((r7.put (j := 10) (by omega)).put (j := 12) (by omega)).put (j := 13) (by omega), ⟨⟨zput_self, ?_, ?_⟩, ⟨?_, ?_, ?_⟩, ⟨o1, o2⟩, by decide, fun _ => lt, fun _ => zput_self, fun z => absurd z (by decide)⟩, p1⟩
      · rw [zput_ne (by omega), zput_self]; rfl
      · rw [zput_ne (by omega), zput_ne (by omega), a5]
      · rw [zput_ne (by omega), w10]
      · rw [zput_ne (by omega), w11]
      · rw [zput_ne (by omega), zput_self]; rfl
    · rw [if_neg cl, if_pos rfl, if_pos rfl, e6_dig, e8_dig, zbp_some, zbp_some]
      by_cases cd : 48 ≤ chr t len x1 ∧ chr t len x1 ≤ 57
      · have eh : zput (zput h7 K 4 2) K 6 0 = z2 (zput h7 K 4 2) K 6 3 0 (x1 : Int) := (zput_same (by rw [zput_ne (by omega), zput_ne (by omega), a3])).symm
        have eg : zput (zput g7 M 12 1) M 13 0 = z2 (zput g7 M 12 1) M 13 10 0 (x1 : Int) := (zput_same (by rw [zput_ne (by omega), zput_ne (by omega), b10])).symm
        obtain ⟨x2, vc, vr, o1, o2, o3, o4, o5, o6⟩ := m_digs hb (k := fun h24 => some ((), h24)) (k8 := fun h26 => some ((), h26)) (len - x1) x1 zF zF (zput h7 K 4 2) (zput g7 M 12 1) 0 0 (by omega) (by omega) (by omega) (hc7.put (by decide)) (hr7.put (by decide)) (Or.inl ⟨rfl, by decide, by decide⟩)
        have lt := o4 cd
        rw [if_pos cd, if_neg one0, if_neg one0, eh, eg, o5, o6]
        refine ⟨_, _, x1, x2, 2, rfl, rfl, ((f7.put (j := 4) (by omega)).put (j := 6) (by omega)).put (j := 3) (by omega), ((r7.put (j := 12) (by omega)).put (j := 13) (by omega)).put (j := 10) (by omega), ⟨⟨z2_y, ?_, ?_⟩, ⟨z2_y, ?_, ?_⟩, ⟨o1, o2⟩, by decide, fun _ => lt, fun z => absurd z (by decide), fun _ => ?_⟩, p1⟩
        · rw [z2_ne (by omega), zput_self]; rfl
        · rw [z2_ne (by omega), zput_ne (by omega), a5]
        · rw [z2_ne (by omega), zput_ne (by omega), b11]
        · rw [z2_ne (by omega), zput_self]; rfl
        · rw [z2_x (by decide), z2_x (by decide)]
          exact o3
      · have hx6 : x1 < 1000000 := by omega
        rw [if_neg cd, if_pos rfl, if_pos rfl]
        have fin : ∀ κ : Nat, 3 ≤ κ → κ ≤ 5 → ∃ h' g' s' x' κ', some ((), zput (zput h7 K 4 (κ : Int)) K 3 (zw ((zput h7 K 4 (κ : Int)).1 K 3 + 1))) = some ((), h') ∧ some ((), zput (zput g7 M 12 (kr κ)) M 10 (zw ((zput g7 M 12 (kr κ)).1 M 10 + 1))) = some ((), g') ∧ FcS K h h' ∧ FrS M g g' ∧ Tok K M t len h' g' s' x' κ' ∧ x ≤ s' := fun κ k3 k5 => by
          have e3 : (zput h7 K 4 (κ : Int)).1 K 3 = (x1 : Int) := by rw [zput_ne (by omega), a3]
          have e10 : (zput g7 M 12 (kr κ)).1 M 10 = (x1 : Int) := by rw [zput_ne (by omega), b10]
          rw [e3, e10, zw_s hx6]
          refine ⟨_, _, x1, x1 + 1, κ, rfl, rfl, (f7.put (j := 4) (by omega)).put (j := 3) (by omega), (r7.put (j := 12) (by omega)).put (j := 10) (by omega), ⟨⟨zput_self, ?_, ?_⟩, ⟨zput_self, ?_, ?_⟩, ⟨by omega, by omega⟩, k5, fun _ => by omega, fun z => by omega, fun z => by omega⟩, p1⟩
          · rw [zput_ne (by omega), zput_self]
          · rw [zput_ne (by omega), zput_ne (by omega), a5]
          · rw [zput_ne (by omega), zput_ne (by omega), b11]
          · rw [zput_ne (by omega), zput_self]
        by_cases d1 : chr t len x1 = 59
        · rw [if_pos d1, if_pos d1]
          exact fin 3 (by decide) (by decide)
        · rw [if_neg d1, if_neg d1]
          by_cases d2 : chr t len x1 = 45
          · rw [if_pos d2, if_pos d2]
            exact fin 4 (by decide) (by decide)
          · rw [if_neg d2, if_neg d2]
            exact fin 5 (by decide) (by decide)
  · have q' : ¬ (x1 : Int) < (len : Int) := by omega
    rw [if_neg q', chr_out q, if_pos rfl]
    refine ⟨_, _, x1, x1, 0, rfl, rfl, f7.put (j := 4) (by omega), r7.put (j := 12) (by omega), ⟨⟨?_, zput_self, ?_⟩, ⟨?_, ?_, zput_self⟩, ⟨Nat.le_refl _, p2⟩, by decide, fun z => absurd rfl z, fun z => absurd z (by decide), fun z => absurd z (by decide)⟩, p1⟩
    · rw [zput_ne (by omega), a3]
    · rw [zput_ne (by omega), a5]
    · rw [zput_ne (by omega), b10]
    · rw [zput_ne (by omega), b11]
