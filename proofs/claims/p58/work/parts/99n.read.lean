/-! The law's text is loaded. -/
theorem rCal_len {w : zW} : ∀ d, (rCal w d).length ≤ 30 * d := by
  intro d
  induction d with
  | zero => exact Nat.le_refl _
  | succ d ih =>
    have y1 := yLen_b (mCl w (mCls w - (d + 1)) 2)
    have y2 := yLen_b (mCl w (mCls w - (d + 1)) 3)
    have y3 := yLen_b (mCl w (mCls w - (d + 1)) 4)
    have e : (wT 3).length = 4 := rfl
    show (wT 3 ++ vCal w (mCls w - (d + 1)) (rCal w d)).length ≤ _
    unfold vCal
    simp only [List.length_append, List.length_nil, List.length_cons, yDig_len, tNm, e]
    omega
theorem rRai_len {w : zW} : ∀ d, (rRai w d).length ≤ 30 * (d + mCls w) := by
  intro d
  induction d with
  | zero =>
    rw [Nat.zero_add]
    exact rCal_len _
  | succ d ih =>
    have y1 := yLen_b (mRn w (mRns w - (d + 1)) 1)
    have y2 := yLen_b (mRn w (mRns w - (d + 1)) 2)
    have y3 := yLen_b (mRn w (mRns w - (d + 1)) 3)
    have e : (wT 2).length = 4 := rfl
    show (wT 2 ++ vRai w (mRns w - (d + 1)) (rRai w d)).length ≤ _
    unfold vRai
    simp only [List.length_append, List.length_nil, List.length_cons, yDig_len, tNm, e]
    omega
theorem rSta_len {w : zW} : ∀ d, (rSta w d).length ≤ 40 * (d + (mRns w + mCls w)) := by
  intro d
  induction d with
  | zero =>
    rw [Nat.zero_add]
    have := rRai_len (w := w) (mRns w)
    show (rRai w (mRns w)).length ≤ _
    omega
  | succ d ih =>
    have y1 := yLen_b (mDel w (mS w - (d + 1)))
    have y2 := yLen_b (iDri w (mS w - (d + 1))).natAbs
    have y3 := yLen_b (mNom w (mS w - (d + 1)))
    have y4 := yLen_b (mGre w (mS w - (d + 1)))
    have e : (wT 1).length = 7 := rfl
    have es : (sgT w (mS w - (d + 1))).length ≤ 1 := by
      unfold sgT
      split
      · exact Nat.le_refl _
      · exact Nat.zero_le _
    show (wT 1 ++ vSta w (mS w - (d + 1)) (rSta w d)).length ≤ _
    unfold vSta
    simp only [List.length_append, List.length_nil, List.length_cons, yDig_len, tNm, e]
    omega
theorem tTxt_len {w : zW} : (tTxt w).length ≤ 900 := by
  have hs := mS_b (w := w)
  have hc := (l_calls (w := w) (h := zH0)).2
  have hr := (l_rains (w := w) (h := zH0)).2
  have h1 := tHead_len (w := w)
  have h2 := rSta_len (w := w) (mS w)
  rw [tTxt_eq, ← tHead_eq, List.length_append]
  omega
theorem tTxt_sm {w : zW} : ySm (tTxt w) := (tCa_ok (w := w) (by have := (l_calls (w := w) (h := zH0)).2; omega)).2
theorem tTxt_Tb {w : zW} : Tb (tL (tTxt w)) (tTxt w).length := ⟨by have := tTxt_len (w := w); omega, fun i _ => by have := tL_b (tTxt_sm (w := w)) i; omega⟩
section RD
variable {B : Nat} {L : List Int32} {g0 h : zH} {w : zW} {k : Int → zH → Option (Int × zH)}
/-- the settings, and all that follows -/
theorem lp_head (h : zH) (I : LI B L g0 h) (h4 : h.1 (B + 497) 4 = 0) (h5 : h.1 (B + 497) 5 = 0) (V : V0c (vw h.1 (B + 500))) (C : Cur B L h 1 (wT 0) (vHead w (rSta w (mS w))) 0) : ∃ h', q_X2_readText_L37 (B + 497) k zF 0 h = k ((mTot w : Nat) : Int) h' ∧ LI B L g0 h' ∧ PP w (mS w) (mRns w) (mCls w) (vw h'.1 (B + 500)) := by
  have hs := mS_b (w := w)
  have hc := (l_calls (w := w) (h := zH0)).2
  have hr := (l_rains (w := w) (h := zH0)).2
  have b1 := mC_b (w := w)
  have b2 := (l_length (w := w) (h := zH0)).2
  have b3 := (l_guard (w := w) (h := zH0)).2
  have b4 := (l_level (w := w) (h := zH0)).2
  obtain ⟨v00, v01, v03, v05, v07, v1⟩ := V
  obtain ⟨ha, pa, Ia, Ca, va, ma⟩ := st_carriers I C h4 v07 (by omega) (nx_word (by decide) nl32)
  have ga : Good (vw ha.1 (B + 500)) := by
    rw [va]
    exact ⟨WF.car (V0c.good ⟨v00, v01, v03, v05, v07, v1⟩).1 v07 (by omega), GI.none (by rw [vup_ne (by omega)]; exact v07)⟩
  have na : ∀ o j, ¬ (o = 0 ∧ j = 1) → vw ha.1 (B + 500) o j = vw h.1 (B + 500) o j := fun o j z => by rw [va]; exact vup_ne z
  have a01 : vw ha.1 (B + 500) 0 1 = ((mC w : Nat) : Int) := by rw [va]; exact vup_at
  obtain ⟨hb, pb, Ib, Cb, vb, mb⟩ := st_set (j := 0) (n := mLen w) Ia (by decide) Ca (by rw [ma, h5]; decide) (Or.inr (by rw [na _ _ (by omega)]; exact v07)) (by omega) (by have e1 : zsV 0 0 = 200 := rfl; have e2 : zsV 1 0 = 5000 := rfl; omega) (nx_word (by decide) nl32)
  have gb : Good (vw hb.1 (B + 500)) := by
    rw [vb]
    exact set_good ga (by decide) (Or.inr (by rw [na _ _ (by omega)]; exact v07)) (by have e1 : zsV 0 0 = 200 := rfl; have e2 : zsV 1 0 = 5000 := rfl; omega)
  have nb : ∀ o j, ¬ (o = 1 ∧ j = 0) → vw hb.1 (B + 500) o j = vw ha.1 (B + 500) o j := fun o j z => by rw [vb]; exact vup_ne z
  have mb' : hb.1 (B + 497) 5 = 1 := by rw [mb, ma, h5]; decide
  obtain ⟨hd, pd, Id, Cd, vd, md⟩ := st_set (j := 1) (n := mGrd w) Ib (by decide) Cb (by rw [mb']; decide) (Or.inr (by rw [nb _ _ (by omega), na _ _ (by omega)]; exact v07)) (by omega) (by have e1 : zsV 0 1 = 0 := rfl; have e2 : zsV 1 1 = 200 := rfl; omega) (nx_word (by decide) nl32)
  have gd : Good (vw hd.1 (B + 500)) := by
    rw [vd]
    exact set_good gb (by decide) (Or.inr (by rw [nb _ _ (by omega), na _ _ (by omega)]; exact v07)) (by have e1 : zsV 0 1 = 0 := rfl; have e2 : zsV 1 1 = 200 := rfl; omega)
  have nd : ∀ o j, ¬ (o = 1 ∧ j = 1) → vw hd.1 (B + 500) o j = vw hb.1 (B + 500) o j := fun o j z => by rw [vd]; exact vup_ne z
  have md' : hd.1 (B + 497) 5 = 3 := by rw [md, mb']; decide
  obtain ⟨κ, u, r', n1, n2⟩ := nx_S (B := B) (L := L) (w := w) (mS w)
  obtain ⟨he, pe, Ie, Ce, ve, me⟩ := st_set (j := 4) (n := mLev w) Id (by decide) Cd (by rw [md']; decide) (Or.inl (by decide)) (by omega) (by have e1 : zsV 0 4 = 0 := rfl; have e2 : zsV 1 4 = 999 := rfl; omega) n1
  have ge : Good (vw he.1 (B + 500)) := by
    rw [ve]
    exact set_good gd (by decide) (Or.inl (by decide)) (by have e1 : zsV 0 4 = 0 := rfl; have e2 : zsV 1 4 = 999 := rfl; omega)
  have ne : ∀ o j, ¬ (o = 1 ∧ j = 4) → vw he.1 (B + 500) o j = vw hd.1 (B + 500) o j := fun o j z => by rw [ve]; exact vup_ne z
  have all : ∀ o j, ¬ (o = 1 ∧ (j = 0 ∨ j = 1 ∨ j = 4)) → vw he.1 (B + 500) o j = vw ha.1 (B + 500) o j := fun o j z => by rw [ne o j (by omega), nd o j (by omega), nb o j (by omega)]
  have e07 : vw he.1 (B + 500) 0 7 = 0 := by rw [all _ _ (by omega), na _ _ (by omega)]; exact v07
  have P : PP w 0 0 0 (vw he.1 (B + 500)) := by
    refine ⟨ge, ⟨⟨?_, fun k hk => by omega, fun k hk => by omega⟩, ?_, ?_, ?_⟩, fun i hi => by omega, ?_, fun r hr => by omega, e07, fun i hi => by omega⟩
    · rw [all _ _ (by omega), na _ _ (by omega), v1 3 (by decide)]
      rfl
    · rw [all _ _ (by omega), a01]
      exact b1.2.2
    · rw [all _ _ (by omega), na _ _ (by omega)]
      exact v03
    · rw [all _ _ (by omega), na _ _ (by omega), v00]
      exact Int.le_refl _
    · rw [all _ _ (by omega), na _ _ (by omega)]
      exact v05
  obtain ⟨h', r1, r2, r3⟩ := lp_stations (k := k) (mS w) (zF - 4) 4 he (Nat.le_refl _) (by unfold zF; omega) (by omega) Ie (by rw [Nat.sub_self]; exact P) (n2 _ Ce)
  refine ⟨h', ?_, r2, r3⟩
  have hf : zF = (zF - 4) + 1 + 1 + 1 + 1 := by unfold zF; rfl
  rw [hf]
  refine (lp_0 (i := 0) I C (by decide) pa).trans ?_
  refine (lp_4 (i := 1) Ia Ca (by decide) pb).trans ?_
  refine (lp_4 (i := 2) Ib Cb (by decide) pd).trans ?_
  refine (lp_4 (i := 3) Id Cd (by decide) pe).trans ?_
  exact r1
theorem e7_load {N : Nat} (hN : N ≤ 1000) (hl : (tTxt w).length ≤ N) (F : FdT B (padT (tTxt w)) N h) : ∃ h2, q_X7_load h B ((tTxt w).length : Int) = some (((nSm (tTxt w) (tTxt w).length : Nat) : Int), h2) ∧ zInv B h2 ∧ ∃ v, PP w (mS w) (mRns w) (mCls w) v ∧ Leq v (vw h2.1 (B + 1)) := by
  have hI : zInv B h := F.inv hN
  have hr := hI.r497
  obtain ⟨g1, c1, c2, c3, c4⟩ := e4_clear (h := h) (i_clyR hI)
  -- the loader's cells
  obtain ⟨h5, hh5⟩ : ∃ h5, h5 = zput (zput (zput (zput g1 (B + 497) 3 0) (B + 497) 2 (-1)) (B + 497) 4 0) (B + 497) 5 0 := ⟨_, rfl⟩
  have r5 : h5.2 = h.2 := by rw [hh5]; exact c2
  have n5 : ∀ q j, q ≠ B + 497 → ¬ (B + 500 ≤ q ∧ q < B + 541) → h5.1 q j = h.1 q j := fun q j z1 z2 => by
    rw [hh5, zput_ne (by omega), zput_ne (by omega), zput_ne (by omega), zput_ne (by omega)]
    exact c4 q j (by omega)
  have v5 : vw h5.1 (B + 500) = vw g1.1 (B + 500) := vw_ext fun o ho j => by
    rw [hh5, zput_ne (by omega), zput_ne (by omega), zput_ne (by omega), zput_ne (by omega)]
  have e53 : h5.1 (B + 497) 3 = 0 := by rw [hh5, zput_ne (by omega), zput_ne (by omega), zput_ne (by omega)]; exact zput_self
  have e54 : h5.1 (B + 497) 4 = 0 := by rw [hh5, zput_ne (by omega)]; exact zput_self
  have e55 : h5.1 (B + 497) 5 = 0 := by rw [hh5]; exact zput_self
  have f5 : h5.1 (B + 498) 0 = (N : Int) := by rw [n5 _ _ (by omega) (by omega)]; exact F.2.1
  have wmin : zmin ((tTxt w).length : Int) (N : Int) = ((tTxt w).length : Int) := by
    unfold zmin
    rw [if_neg (by omega)]
  obtain ⟨h7, hh7⟩ : ∃ h7, h7 = zput (zput h5 (B + 498) 2 ((tTxt w).length : Int)) (B + 498) 3 0 := ⟨_, rfl⟩
  have n7 : ∀ q j, ¬ (q = B + 498 ∧ j ≠ 0) → h7.1 q j = h5.1 q j := fun q j z => by rw [hh7, zput_ne (by omega), zput_ne (by omega)]
  have r7 : h7.2 = h.2 := by rw [hh7]; exact r5
  have e73 : h7.1 (B + 498) 3 = ((0 : Nat) : Int) := by rw [hh7]; exact zput_self
  have e72 : h7.1 (B + 498) 2 = ((tTxt w).length : Int) := by rw [hh7, zput_ne (by omega)]; exact zput_self
  have v7 : vw h7.1 (B + 500) = vw g1.1 (B + 500) := by rw [← v5]; exact vw_ext fun o ho j => n7 _ _ (by omega)
  have I7 : LI B (tTxt w) h h7 := by
    refine ⟨hI, tTxt_Tb, r7, ⟨e72, by rw [r7]; exact hr.2.2, fun i hi => ?_⟩, by rw [n7 _ _ (by omega)]; exact e53, fun q j z1 z2 z3 => by rw [n7 _ _ z2]; exact n5 q j z1 z3⟩
    have := F.2.2.1 i (by omega)
    rw [show B + 498 + 1 = B + 499 by omega, n7 _ _ (by omega), n5 _ _ (by omega) (by omega), this]
    exact tL_left hi
  obtain ⟨h8, s1, s2, s3⟩ := l_step (x := 0) (r := tTxt w) I7 e73 rfl (Nat.zero_add _) (κ := 1) (u := wT 0) (r' := vHead w (rSta w (mS w))) (y := 0) (by rw [tTxt_eq]; exact nx_word (by decide) nl32)
  have I8 := I7.kp s2
  have e84 : h8.1 (B + 497) 4 = 0 := by rw [s2.ld, n7 _ _ (by omega)]; exact e54
  have e85 : h8.1 (B + 497) 5 = 0 := by rw [s2.ld, n7 _ _ (by omega)]; exact e55
  have V8 : V0c (vw h8.1 (B + 500)) := by rw [s2.vw, v7]; exact c3
  obtain ⟨h9, t1, t2, t3⟩ := lp_head (w := w) (k := fun x24 h25 => if (zput h25 (h25.2 (B + 497) 0) 0 0).1 (B + 497) 3 = 0 then some (x24, zput h25 (h25.2 (B + 497) 0) 0 0) else some ((zput h25 (h25.2 (B + 497) 0) 0 0).1 (B + 497) 3, zput h25 (h25.2 (B + 497) 0) 0 0)) h8 I8 e84 e85 V8 s3
  -- what readText gives
  obtain ⟨ha, hha⟩ : ∃ ha, ha = zput h9 (B + 498) 0 0 := ⟨_, rfl⟩
  have na : ∀ q j, ¬ (q = B + 498 ∧ j = 0) → ha.1 q j = h9.1 q j := fun q j z => by rw [hha]; exact zput_ne z
  have ra : ha.2 = h.2 := by rw [hha]; exact t2.2.2.1
  have hread : q_X2_readText h (B + 497) ((tTxt w).length : Int) = some (((mTot w : Nat) : Int), ha) := by
    unfold q_X2_readText
    rw [hr.2.1, c1, zbd_some]
    simp only [zlet_b]
    rw [← hh5, r5, hr.1]
    unfold q_X6_begin
    simp only [zlet_b]
    rw [f5, wmin, ← hh7, s1, zbd_some, zbd_some, t1]
    rw [t2.r.1, ← hha, na _ _ (by omega), if_pos t2.2.2.2.2.1]
  have va : vw ha.1 (B + 500) = vw h9.1 (B + 500) := vw_ext fun o ho j => na _ _ (by omega)
  have hcR : CV ha (B + 500) := ⟨by rw [ra]; exact i_clyR hI, by rw [va]; exact t3.1.1⟩
  obtain ⟨hb, k1, k2, k3⟩ := e4_copy (A := B + 1) (A' := B + 500) (h := ha) (by rw [ra]; exact hI.cly) hcR (by unfold Apt; omega)
  rw [va] at k2
  have rb : hb.2 = h.2 := k3.1.trans ra
  have vb : vw (zput hb (B + 85) 0 0).1 (B + 1) = vw hb.1 (B + 1) := vw_ext fun o ho j => zput_ne (by omega)
  refine ⟨zput hb (B + 85) 0 0, ?_, ?_, vw h9.1 (B + 500), t3, by rw [vb]; exact k2⟩
  · unfold q_X7_load
    rw [if_neg (by omega), hI.r4, hr.1, F.2.1, if_pos (by omega), hread, zbd_some, if_neg (by omega), ra, hI.r0, hI.r4, hr.2.1, k1, zbd_some]
    simp only [zlet_b]
    rw [rb, hI.r3, nSm_text]
  · obtain ⟨i1, ⟨σ, j1, j2, j3⟩, _⟩ := hI
    have o498 : (zput hb (B + 85) 0 0).1 (B + 498) 0 = 0 := by
      rw [zput_ne (by omega), k3.2 _ _ (by omega), hha]
      exact zput_self
    refine ⟨fun o ho ho2 j => by show hb.2 _ _ = _; rw [rb]; exact i1 o ho ho2 j, ⟨σ, j1, j2, fun j hj => by show hb.2 _ _ = _; rw [rb]; exact j3 j hj⟩, by rw [zput_self]; omega, by rw [vb]; exact k2.good t3.1, by rw [o498]; omega⟩
/-- the law's exchange, as it is after its text -/
theorem law_load (B : Nat) (w : zW) : ∃ (hh : Nat → zH) (h2 : zH), hh 0 = gB B ∧ (∀ j, 20 * (j + 1) ≤ (padT (tTxt w)).length → pFeed B (padT (tTxt w)) (20 * j) (hh j) (hh (j + 1))) ∧ q_X7_load (hh ((padT (tTxt w)).length / 20)) B ((tTxt w).length : Int) = some (((nSm (tTxt w) (tTxt w).length : Nat) : Int), h2) ∧ zInv B h2 ∧ ∃ v, PP w (mS w) (mRns w) (mCls w) v ∧ Leq v (vw h2.1 (B + 1)) := by
  obtain ⟨l1, l2, l3⟩ := padT_len (t := tTxt w)
  have l4 := tTxt_len (w := w)
  have hsm : ySm (padT (tTxt w)) := by
    unfold padT
    refine ySm_app tTxt_sm fun x hx => ?_
    rw [List.eq_of_mem_replicate hx]
    decide
  obtain ⟨hh, f1, f2, f3⟩ := FdT.all (B := B) hsm ((padT (tTxt w)).length / 20) (by omega)
  obtain ⟨h2, e1, e2, e3⟩ := e7_load (w := w) (N := 20 * ((padT (tTxt w)).length / 20)) (by omega) (by omega) f3
  exact ⟨hh, h2, f1, fun j hj => f2 j (by omega), e1, e2, e3⟩
end RD
