/-! Reading a known text: its statements. -/
theorem nl32 {r : List Int32} : ¬ isLt (tL (32 :: r) 0) := (by unfold isLt; decide : ¬ isLt 32)
theorem nd32 {r : List Int32} : ¬ isDg (tL (32 :: r) 0) := (by unfold isDg; decide : ¬ isDg 32)
theorem nd59 {r : List Int32} : ¬ isDg (tL (59 :: r) 0) := (by unfold isDg; decide : ¬ isDg 59)
theorem nx_dig {n : Nat} (hn : n < 10000) {r : List Int32} (hr : ¬ isDg (tL r 0)) : Nx (32 :: (yDig n ++ r)) 2 (yDig n) r (n : Int) := ⟨[32], Or.inr rfl, rfl, Or.inr (Or.inr (Or.inl ⟨rfl, ⟨n, hn, rfl, rfl⟩, hr⟩))⟩
theorem nx_dig0 {n : Nat} (hn : n < 10000) {r : List Int32} (hr : ¬ isDg (tL r 0)) : Nx (yDig n ++ r) 2 (yDig n) r (n : Int) := ⟨[], Or.inl rfl, rfl, Or.inr (Or.inr (Or.inl ⟨rfl, ⟨n, hn, rfl, rfl⟩, hr⟩))⟩
theorem nx_semi {r : List Int32} : Nx (59 :: r) 3 [59] r 0 := ⟨[], Or.inl rfl, rfl, Or.inr (Or.inr (Or.inr (Or.inl ⟨rfl, rfl⟩)))⟩
theorem nx_min {r : List Int32} : Nx (32 :: (45 :: r)) 4 [45] r 0 := ⟨[32], Or.inr rfl, rfl, Or.inr (Or.inr (Or.inr (Or.inr ⟨rfl, rfl⟩)))⟩
theorem nx_word {m : Nat} (hm : m < 12) {r : List Int32} (hr : ¬ isLt (tL r 0)) : Nx (wT m ++ r) 1 (wT m) r 0 := ⟨[], Or.inl rfl, rfl, Or.inr (Or.inl ⟨rfl, (wT_lt m hm).1, (wT_lt m hm).2, hr⟩)⟩
theorem nx_wordS {m : Nat} (hm : m < 12) {r : List Int32} (hr : ¬ isLt (tL r 0)) : Nx (32 :: (wT m ++ r)) 1 (wT m) r 0 := ⟨[32], Or.inr rfl, rfl, Or.inr (Or.inl ⟨rfl, (wT_lt m hm).1, (wT_lt m hm).2, hr⟩)⟩
theorem nx_name {k : Nat} (hk : k < 10) {r : List Int32} (hr : ¬ isLt (tL r 0)) : Nx (32 :: (tNm k ++ r)) 1 (tNm k) r 0 := by
  refine ⟨[32], Or.inr rfl, rfl, Or.inr (Or.inl ⟨rfl, by unfold tNm; exact List.cons_ne_nil _ _, fun x hx => ?_, hr⟩)⟩
  simp only [tNm, List.mem_cons, List.not_mem_nil, or_false] at hx
  unfold isLt
  rcases hx with rfl | rfl
  · decide
  · rw [zi_toInt ⟨by omega, by omega⟩]
    omega
theorem nx_end : Nx [] 0 [] [] 0 := ⟨[], Or.inl rfl, rfl, Or.inl ⟨rfl, rfl, rfl, rfl⟩⟩
/-- what a statement writes -/
def Wr (B : Nat) (h h' : zH) : Prop := h'.2 = h.2 ∧ ∀ q j, ¬ (q = B + 497 ∧ j ≠ 3) → ¬ (B + 500 ≤ q ∧ q < B + 541) → h'.1 q j = h.1 q j
theorem Wr.rf {B : Nat} {h : zH} : Wr B h h := ⟨rfl, fun _ _ _ _ => rfl⟩
theorem Wr.put {B : Nat} {h h' : zH} (w : Wr B h h') {q j : Nat} {x : Int} (z : (q = B + 497 ∧ j ≠ 3) ∨ (B + 500 ≤ q ∧ q < B + 541)) : Wr B h (zput h' q j x) := ⟨w.1, fun a i z1 z2 => by rw [zput_ne (by omega)]; exact w.2 a i z1 z2⟩
section ST
variable {B : Nat} {L : List Int32} {g0 h : zH}
theorem LI.wr (I : LI B L g0 h) {h' : zH} (k : Wr B h h') : LI B L g0 h' := by
  obtain ⟨i1, i2, i3, ⟨c1, c2, c3⟩, i5, i6⟩ := I
  exact ⟨i1, i2, k.1.trans i3, ⟨by rw [k.2 _ _ (by omega) (by omega)]; exact c1, by rw [k.1]; exact c2, fun i hi => by rw [k.2 _ _ (by omega) (by omega)]; exact c3 i hi⟩, by rw [k.2 _ _ (by omega) (by omega)]; exact i5, fun q j z1 z2 z3 => by rw [k.2 _ _ (by omega) z3]; exact i6 q j z1 z2 z3⟩
theorem Cur.wr {κ : Nat} {u r : List Int32} {y : Int} (C : Cur B L h κ u r y) {h' : zH} (k : Wr B h h') : Cur B L h' κ u r y := by
  obtain ⟨s, s1, s2, s3, s4, s5, s6⟩ := C
  exact ⟨s, by rw [k.2 _ _ (by omega) (by omega)]; exact s1, by rw [k.2 _ _ (by omega) (by omega)]; exact s2, by rw [k.2 _ _ (by omega) (by omega)]; exact s3, fun e => by rw [k.2 _ _ (by omega) (by omega)]; exact s4 e, s5, s6⟩
theorem st_carriers (I : LI B L g0 h) {c κ : Nat} {r u r' : List Int32} {y0 y : Int} (C : Cur B L h 1 (wT 0) (32 :: (yDig c ++ 59 :: r)) y0) (h4 : h.1 (B + 497) 4 = 0) (h7 : vw h.1 (B + 500) 0 7 = 0) (hc : 1 ≤ c ∧ c ≤ 4) (hN : Nx r κ u r' y) : ∃ h', q_X2_readCarriers h (B + 497) = some ((), h') ∧ LI B L g0 h' ∧ Cur B L h' κ u r' y ∧ vw h'.1 (B + 500) = vup (vw h.1 (B + 500)) 0 1 (c : Int) ∧ h'.1 (B + 497) 5 = h.1 (B + 497) 5 := by
  obtain ⟨h1, p1, k1, C1⟩ := l_accept I C (nx_dig (by omega) nd59)
  have I1 := I.kp k1
  obtain ⟨h2, p2, k2, C2⟩ := l_number I1 C1 (lo := 1) (hi := 4) (by omega) nx_semi
  have I2 := I1.kp k2
  obtain ⟨h3, p3, k3, C3⟩ := l_semi I2 C2 hN
  have I3 := I2.kp k3
  have kk := (k1.tr k2).tr k3
  have w : Wr B h3 (zput (zput h3 (B + 497) 4 1) (B + 500) 1 (c : Int)) := (Wr.rf.put (by omega)).put (by omega)
  refine ⟨_, ?_, I3.wr w, C3.wr w, ?_, ?_⟩
  · unfold q_X2_readCarriers
    rw [if_pos h4, I.r.2.1, ← vw_at (g := h.1) (A := B + 500) (o := 0) (by decide), h7, if_pos (Int.le_refl _), p1, zbd_some, p2, zbd_some, p3, zbd_some, if_pos I3.2.2.2.2.1]
    simp only [zlet_b]
    rw [(I3.wr (Wr.rf.put (q := B + 497) (j := 4) (x := 1) (by omega))).r.2.1]
  · rw [vw_put0, ← kk.vw]
    refine congrArg (fun v => vup v 0 1 (c : Int)) (vw_ext fun o ho j => zput_ne (by omega))
  · rw [zput_ne (by omega), zput_ne (by omega)]
    exact kk.ld 5
theorem st_set (I : LI B L g0 h) {j n κ : Nat} {r u r' : List Int32} {y0 y : Int} (hj : j < 7) (C : Cur B L h 1 (wT 4) (32 :: (wT (5 + j) ++ 32 :: (yDig n ++ 59 :: r))) y0) (hm : zand (zshr (h.1 (B + 497) 5) (j : Int)) 1 = 0) (h7 : 4 ≤ j ∨ vw h.1 (B + 500) 0 7 = 0) (h9 : n < 10000) (hc : zsV 0 j ≤ (n : Int) ∧ (n : Int) ≤ zsV 1 j) (hN : Nx r κ u r' y) : ∃ h', q_X2_readSet h (B + 497) = some ((), h') ∧ LI B L g0 h' ∧ Cur B L h' κ u r' y ∧ vw h'.1 (B + 500) = vup (vw h.1 (B + 500)) 1 j (n : Int) ∧ h'.1 (B + 497) 5 = zor (h.1 (B + 497) 5) (zshl 1 (j : Int)) := by
  obtain ⟨h1, p1, k1, C1⟩ := l_accept I C (nx_wordS (by omega) nl32)
  have I1 := I.kp k1
  obtain ⟨h2, p2, k2, C2⟩ := l_accept I1 C1 (nx_dig h9 nd59)
  have I2 := I1.kp k2
  obtain ⟨h3, p3, k3, C3⟩ := l_number I2 C2 (lo := zsV 0 j) (hi := zsV 1 j) hc nx_semi
  have I3 := I2.kp k3
  obtain ⟨h4, p4, k4, C4⟩ := l_semi I3 C3 hN
  have I4 := I3.kp k4
  have kk := ((k1.tr k2).tr k3).tr k4
  have wa : Wr B h4 (zput h4 (B + 497) 5 (zor (h4.1 (B + 497) 5) (zshl 1 (j : Int)))) := Wr.rf.put (by omega)
  have w : Wr B h4 (zput (zput h4 (B + 497) 5 (zor (h4.1 (B + 497) 5) (zshl 1 (j : Int)))) (B + 500 + 1) j (n : Int)) := wa.put (by omega)
  have hS : SetC B j h1 = some ((), zput (zput h4 (B + 497) 5 (zor (h4.1 (B + 497) 5) (zshl 1 (j : Int)))) (B + 500 + 1) j (n : Int)) := by
    unfold SetC
    rw [p2, zbd_some, p3, zbd_some, p4, zbd_some, if_pos I4.2.2.2.2.1, (I4.wr wa).r.2.1, (I4.wr wa).cly.set]
  refine ⟨_, ?_, I4.wr w, C4.wr w, ?_, ?_⟩
  · unfold q_X2_readSet
    rw [p1, zbd_some, l_setting I1 C1 hj, zbp_some, if_neg (by omega), k1.ld 5, if_pos hm]
    by_cases q : 4 ≤ j
    · rw [if_pos (by omega)]
      exact (SetC_eq hj).trans hS
    · have z : vw h.1 (B + 500) 0 7 = 0 := by omega
      rw [if_neg (by omega), I1.r.2.1, ← vw_at (g := h1.1) (A := B + 500) (o := 0) (by decide), k1.vw, z, if_pos (Int.le_refl _)]
      exact (SetC_eq hj).trans hS
  · rw [vw_put (by decide), ← kk.vw]
    refine congrArg (fun v => vup v 1 j (n : Int)) (vw_ext fun o ho i => zput_ne (by omega))
  · rw [zput_ne (by omega), zput_self, kk.ld 5]
theorem st_station (I : LI B L g0 h) {n k a d no g κ : Nat} {σ : Int} {dr r u r' : List Int32} {y0 y : Int} (C : Cur B L h 1 (wT 1) (32 :: (tNm k ++ 32 :: (yDig a ++ 32 :: (dr ++ (yDig d ++ 32 :: (yDig no ++ 32 :: (yDig g ++ 59 :: r))))))) y0) (hdr : (σ = -1 ∧ dr = [45]) ∨ (σ = 1 ∧ dr = [])) (hw : WF (vw h.1 (B + 500))) (hn : vw h.1 (B + 500) 0 3 = (n : Int)) (h6 : n < 6) (hs : sNamed (vw h.1 (B + 500)) (nmV k) = -1) (hk : k < 10) (ha : a ≤ 5000) (hd : d ≤ 50) (hno : no ≤ g) (hg : g ≤ 999) (hN : Nx r κ u r' y) : ∃ h', q_X2_readStation h (B + 497) = some ((), h') ∧ LI B L g0 h' ∧ Cur B L h' κ u r' y ∧ vw h'.1 (B + 500) = vsn (vw h.1 (B + 500)) n (nmV k) (a : Int) (σ * (d : Int)) (no : Int) (g : Int) := by
  have c3 : h.1 (B + 500) 3 < 6 := by
    rw [← vw_at (g := h.1) (A := B + 500) (o := 0) (by decide), hn]
    omega
  obtain ⟨h1, p1, k1, C1⟩ := l_accept I C (nx_name hk nl32)
  have I1 := I.kp k1
  have wd : zw (σ * (d : Int)) = σ * (d : Int) := by
    rcases hdr with ⟨rfl, _⟩ | ⟨rfl, _⟩ <;> exact zw_id ⟨by omega, by omega⟩
  have tail : ∀ h9, Kp B h h9 → Cur B L h9 2 (yDig d) (32 :: (yDig no ++ 32 :: (yDig g ++ 59 :: r))) (d : Int) → ∃ h', StaC B σ h9 (nmV k) (a : Int) = some ((), h') ∧ LI B L g0 h' ∧ Cur B L h' κ u r' y ∧ vw h'.1 (B + 500) = vsn (vw h.1 (B + 500)) n (nmV k) (a : Int) (σ * (d : Int)) (no : Int) (g : Int) := by
    intro h9 k9 C9
    have I9 := I.kp k9
    obtain ⟨ha, pa, ka, Ca⟩ := l_number I9 C9 (lo := 0) (hi := 50) (by omega) (nx_dig (by omega) nd32)
    have Ia := I9.kp ka
    obtain ⟨hb, pb, kb, Cb⟩ := l_number Ia Ca (lo := 0) (hi := 999) (by omega) (nx_dig (by omega) nd59)
    have Ib := Ia.kp kb
    obtain ⟨hc, pc, kc, Cc⟩ := l_number Ib Cb (lo := (no : Int)) (hi := 999) (by omega) nx_semi
    have Ic := Ib.kp kc
    obtain ⟨he, pe, ke, Ce⟩ := l_semi Ic Cc hN
    have Ie := Ic.kp ke
    have kk := (((k9.tr ka).tr kb).tr kc).tr ke
    have e3 : he.1 (B + 500) 3 = (n : Int) := by
      rw [← vw_at (g := he.1) (A := B + 500) (o := 0) (by decide), kk.vw, hn]
    obtain ⟨h', q1, q2, q3, q4⟩ := e4_addStation Ie.cly e3 h6 (a := nmV k) (b := (a : Int)) (c := σ * (d : Int)) (d := (no : Int)) (e := (g : Int))
    have w : Wr B he h' := ⟨q2, fun q j z1 z2 => q4 q j (by omega)⟩
    refine ⟨h', ?_, Ie.wr w, Ce.wr w, by rw [q3, kk.vw]⟩
    unfold StaC
    rw [pa, zbd_some, pb, zbd_some, pc, zbd_some, pe, zbd_some, if_pos Ie.2.2.2.2.1, Ie.r.2.1, wd, q1, zbd_some]
  rcases hdr with ⟨rfl, rfl⟩ | ⟨rfl, rfl⟩
  · obtain ⟨h2, p2, k2, C2⟩ := l_newName I1 C1 (by rw [k1.vw]; exact hw) (by rw [k1.vw]; exact hs) (nx_dig (by omega) nd32)
    have I2 := I1.kp k2
    obtain ⟨h3, p3, k3, C3⟩ := l_number I2 C2 (lo := 0) (hi := 5000) (by omega) nx_min
    have I3 := I2.kp k3
    obtain ⟨h4, p4, k4, C4⟩ := l_accept I3 C3 (nx_dig0 (by omega) nd32)
    have e4 : h3.1 (B + 498) 4 = 4 := by
      obtain ⟨s, _, _, z, _⟩ := C3
      exact z
    obtain ⟨h', t1, t2⟩ := tail h4 (((k1.tr k2).tr k3).tr k4) C4
    refine ⟨h', ?_, t2⟩
    unfold q_X2_readStation
    rw [I.r.2.1, if_pos c3, p1, zbd_some, p2, zbd_some, p3, zbd_some, I3.r.1, if_pos e4, p4, zbd_some]
    exact t1
  · obtain ⟨h2, p2, k2, C2⟩ := l_newName I1 C1 (by rw [k1.vw]; exact hw) (by rw [k1.vw]; exact hs) (nx_dig (by omega) nd32)
    have I2 := I1.kp k2
    obtain ⟨h3, p3, k3, C3⟩ := l_number I2 C2 (lo := 0) (hi := 5000) (by omega) (nx_dig (by omega) nd32)
    have e4 : ¬ h3.1 (B + 498) 4 = 4 := by
      obtain ⟨s, _, _, z, _⟩ := C3
      have z' : h3.1 (B + 498) 4 = 2 := z
      omega
    have I3 := I2.kp k3
    obtain ⟨h', t1, t2⟩ := tail h3 ((k1.tr k2).tr k3) C3
    refine ⟨h', ?_, t2⟩
    unfold q_X2_readStation
    rw [I.r.2.1, if_pos c3, p1, zbd_some, p2, zbd_some, p3, zbd_some, I3.r.1, if_neg e4]
    exact t1
theorem st_rain (I : LI B L g0 h) {n k a b c κ : Nat} {r u r' : List Int32} {y0 y : Int} (C : Cur B L h 1 (wT 2) (32 :: (tNm k ++ 32 :: (yDig a ++ 32 :: (yDig b ++ 32 :: (yDig c ++ 59 :: r))))) y0) (hw : WF (vw h.1 (B + 500))) (hn : vw h.1 (B + 500) 0 5 = (n : Int)) (h8 : n < 8) (hs : sNamed (vw h.1 (B + 500)) (nmV k) = (k : Int)) (hk : k < 10) (hab : a ≤ b) (hb : b < 10000) (hc : 1 ≤ c ∧ c ≤ 400) (hN : Nx r κ u r' y) : ∃ h', q_X2_readRain h (B + 497) = some ((), h') ∧ LI B L g0 h' ∧ Cur B L h' κ u r' y ∧ vw h'.1 (B + 500) = vra (vw h.1 (B + 500)) n (k : Int) (a : Int) (b : Int) (c : Int) := by
  have c5 : h.1 (B + 500) 5 < 8 := by
    rw [← vw_at (g := h.1) (A := B + 500) (o := 0) (by decide), hn]
    omega
  obtain ⟨h1, p1, k1, C1⟩ := l_accept I C (nx_name hk nl32)
  have I1 := I.kp k1
  obtain ⟨h2, p2, k2, C2⟩ := l_stName I1 C1 (by rw [k1.vw]; exact hw) (by rw [k1.vw]; exact hs) (x1 := -1) (by omega) (nx_dig (by omega) nd32)
  have I2 := I1.kp k2
  obtain ⟨ha, pa, ka, Ca⟩ := l_number I2 C2 (lo := 0) (hi := 9999) (by omega) (nx_dig (by omega) nd32)
  have Ia := I2.kp ka
  obtain ⟨hb', pb, kb, Cb⟩ := l_number Ia Ca (lo := (a : Int)) (hi := 9999) (by omega) (nx_dig (by omega) nd59)
  have Ib := Ia.kp kb
  obtain ⟨hc', pc, kc, Cc⟩ := l_number Ib Cb (lo := 1) (hi := 400) (by omega) nx_semi
  have Ic := Ib.kp kc
  obtain ⟨he, pe, ke, Ce⟩ := l_semi Ic Cc hN
  have Ie := Ic.kp ke
  have kk := ((((k1.tr k2).tr ka).tr kb).tr kc).tr ke
  have e5 : he.1 (B + 500) 5 = (n : Int) := by
    rw [← vw_at (g := he.1) (A := B + 500) (o := 0) (by decide), kk.vw, hn]
  obtain ⟨h', q1, q2, q3, q4⟩ := e4_addRain Ie.cly e5 h8 (a := (k : Int)) (b := (a : Int)) (c := (b : Int)) (d := (c : Int))
  have w : Wr B he h' := ⟨q2, fun q j z1 z2 => q4 q j (by omega)⟩
  refine ⟨h', ?_, Ie.wr w, Ce.wr w, by rw [q3, kk.vw]⟩
  unfold q_X2_readRain
  rw [I.r.2.1, if_pos c5, p1, zbd_some, p2, zbd_some, pa, zbd_some, pb, zbd_some, pc, zbd_some, pe, zbd_some, if_pos Ie.2.2.2.2.1, Ie.r.2.1, q1, zbd_some]
theorem st_call (I : LI B L g0 h) {n k k2 a b c κ : Nat} {r u r' : List Int32} {y0 y : Int} (C : Cur B L h 1 (wT 3) (32 :: (tNm k ++ 32 :: (tNm k2 ++ 32 :: (yDig a ++ 32 :: (yDig b ++ 32 :: (yDig c ++ 59 :: r)))))) y0) (hw : WF (vw h.1 (B + 500))) (hn : vw h.1 (B + 500) 0 7 = (n : Int)) (h16 : n < 16) (hs : sNamed (vw h.1 (B + 500)) (nmV k) = (k : Int)) (hs2 : sNamed (vw h.1 (B + 500)) (nmV k2) = (k2 : Int)) (hk : k < 10) (hk2 : k2 < 10) (hS : (k : Int) < vw h.1 (B + 500) 0 3) (hS2 : (k2 : Int) < vw h.1 (B + 500) 0 3) (hne : k ≠ k2) (ha : a ≤ 9) (hb : 1 ≤ b ∧ b ≤ 2000) (hc : 1 ≤ c ∧ c < 10000) (hN : Nx r κ u r' y) : ∃ h' x, q_X2_readCall h (B + 497) = some ((), h') ∧ LI B L g0 h' ∧ Cur B L h' κ u r' y ∧ BP (vnew (vw h.1 (B + 500)) n (k : Int) (k2 : Int) (a : Int) (vw h.1 (B + 500) 1 3 + (b : Int)) (c : Int)) n (vw h'.1 (B + 500)) x := by
  have c7 : h.1 (B + 500) 7 < 16 := by
    rw [← vw_at (g := h.1) (A := B + 500) (o := 0) (by decide), hn]
    omega
  obtain ⟨h1, p1, k1, C1⟩ := l_accept I C (nx_name hk nl32)
  have I1 := I.kp k1
  obtain ⟨h2, p2, kq2, C2⟩ := l_stName I1 C1 (by rw [k1.vw]; exact hw) (by rw [k1.vw]; exact hs) (x1 := -1) (by omega) (nx_name hk2 nl32)
  have I2 := I1.kp kq2
  have k12 := k1.tr kq2
  obtain ⟨h3, p3, kq3, C3⟩ := l_stName I2 C2 (by rw [k12.vw]; exact hw) (by rw [k12.vw]; exact hs2) (x1 := (k : Int)) (by omega) (nx_dig (by omega) nd32)
  have I3 := I2.kp kq3
  obtain ⟨ha, pa, ka, Ca⟩ := l_number I3 C3 (lo := 0) (hi := 9) (by omega) (nx_dig (by omega) nd32)
  have Ia := I3.kp ka
  obtain ⟨hb', pb, kb, Cb⟩ := l_number Ia Ca (lo := 1) (hi := 2000) (by omega) (nx_dig (by omega) nd59)
  have Ib := Ia.kp kb
  obtain ⟨hc', pc, kc, Cc⟩ := l_number Ib Cb (lo := 1) (hi := 9999) (by omega) nx_semi
  have Ic := Ib.kp kc
  obtain ⟨he, pe, ke, Ce⟩ := l_semi Ic Cc hN
  have Ie := Ic.kp ke
  have kk := ((((k12.tr kq3).tr ka).tr kb).tr kc).tr ke
  have hv : vw he.1 (B + 500) = vw h.1 (B + 500) := kk.vw
  obtain ⟨h', x, q1, q2, q3⟩ := e4_addCall (h := he) (A := B + 500) ⟨Ie.cly, by rw [hv]; exact hw⟩ (n := n) (by rw [hv]; exact hn) h16 (s := (k : Int)) (r := (k2 : Int)) (p := (a : Int)) (sy := (b : Int)) (ho := (c : Int)) (by rw [hv]; omega) (by rw [hv]; omega) (by omega) (by omega) (by omega) (by omega)
  rw [hv] at q3
  have w : Wr B he h' := ⟨q2.1, fun q j z1 z2 => q2.2 q j (by omega)⟩
  refine ⟨h', x, ?_, Ie.wr w, Ce.wr w, q3⟩
  unfold q_X2_readCall
  rw [I.r.2.1, if_pos c7, p1, zbd_some, p2, zbd_some, p3, zbd_some, pa, zbd_some, pb, zbd_some, pc, zbd_some, pe, zbd_some, if_pos Ie.2.2.2.2.1, Ie.r.2.1, q1, zbd_some]
end ST
