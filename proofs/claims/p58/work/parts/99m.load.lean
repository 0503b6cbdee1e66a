/-! The law's text is read. -/
theorem nSc_vCal {w : zW} {k : Nat} (hk : k < 90) {r : List Int32} : nSc (vCal w k r) = 1 + nSc r := by
  have hs := mS_b (w := w)
  have f := (l_call (w := w) (h := zH0) hk).2
  unfold vCal
  simp only [nSc_app, nSc_32, nSc_59]
  rw [nSc_name (by omega), nSc_name (by omega), nSc_dig (by omega), nSc_dig (by omega), nSc_dig (by omega)]
  omega
theorem nSc_vRai {w : zW} {k : Nat} (hk : k < 90) {r : List Int32} : nSc (vRai w k r) = 1 + nSc r := by
  have hs := mS_b (w := w)
  have f := (l_rain (w := w) (h := zH0) hk).2
  unfold vRai
  simp only [nSc_app, nSc_32, nSc_59]
  rw [nSc_name (by omega), nSc_dig (by omega), nSc_dig (by omega), nSc_dig (by omega)]
  omega
theorem sgT_ok {w : zW} {k : Nat} : (∃ σ : Int, (σ = -1 ∧ sgT w k = [45] ∨ σ = 1 ∧ sgT w k = []) ∧ σ * ((iDri w k).natAbs : Int) = iDri w k) := by
  unfold sgT
  by_cases q : iDri w k < 0
  · exact ⟨-1, Or.inl ⟨rfl, if_pos q⟩, by omega⟩
  · exact ⟨1, Or.inr ⟨rfl, if_neg q⟩, by omega⟩
theorem nSc_vSta {w : zW} {k : Nat} (hk : k < 10) {r : List Int32} : nSc (vSta w k r) = 1 + nSc r := by
  have f1 := (l_delay (w := w) (h := zH0) (show k < 100 by omega)).2
  have f2 := (l_nominal (w := w) (h := zH0) (show k < 100 by omega)).2
  have f3 := (l_greatest (w := w) (h := zH0) (show k < 100 by omega)).2
  have f4 := (l_drift (w := w) (h := zH0) (show k < 100 by omega)).2
  have e : nSc (sgT w k) = 0 := by
    obtain ⟨σ, ⟨_, z⟩ | ⟨_, z⟩, _⟩ := sgT_ok (w := w) (k := k) <;> rw [z] <;> rfl
  unfold vSta
  simp only [nSc_app, nSc_32, nSc_59]
  rw [nSc_name hk, nSc_dig (by omega), nSc_dig (by omega), nSc_dig (by omega), nSc_dig (by omega), e]
  omega
theorem nSc_rCal {w : zW} : ∀ d, d ≤ mCls w → nSc (rCal w d) = d := by
  have hc := (l_calls (w := w) (h := zH0)).2
  intro d
  induction d with
  | zero => intro _; rfl
  | succ d ih =>
    intro hd
    show nSc (wT 3 ++ vCal w (mCls w - (d + 1)) (rCal w d)) = _
    rw [nSc_app, nSc_word 3 (by decide), nSc_vCal (by omega), ih (by omega)]
    omega
theorem nSc_rRai {w : zW} : ∀ d, d ≤ mRns w → nSc (rRai w d) = d + mCls w := by
  have hc := (l_rains (w := w) (h := zH0)).2
  intro d
  induction d with
  | zero =>
    intro _
    rw [Nat.zero_add]
    exact nSc_rCal _ (Nat.le_refl _)
  | succ d ih =>
    intro hd
    show nSc (wT 2 ++ vRai w (mRns w - (d + 1)) (rRai w d)) = _
    rw [nSc_app, nSc_word 2 (by decide), nSc_vRai (by omega), ih (by omega)]
    omega
theorem nSc_rSta {w : zW} : ∀ d, d ≤ mS w → nSc (rSta w d) = d + (mRns w + mCls w) := by
  have hc := mS_b (w := w)
  intro d
  induction d with
  | zero =>
    intro _
    rw [Nat.zero_add]
    exact nSc_rRai _ (Nat.le_refl _)
  | succ d ih =>
    intro hd
    show nSc (wT 1 ++ vSta w (mS w - (d + 1)) (rSta w d)) = _
    rw [nSc_app, nSc_word 1 (by decide), nSc_vSta (by omega), ih (by omega)]
    omega
/-- how many statements the text has -/
def mTot (w : zW) : Nat := 4 + (mS w + (mRns w + mCls w))
theorem nSm_text {w : zW} : nSm (tTxt w) (tTxt w).length = mTot w := by
  have h1 := mC_b (w := w)
  have h2 := (l_length (w := w) (h := zH0)).2
  have h3 := (l_guard (w := w) (h := zH0)).2
  have h4 := (l_level (w := w) (h := zH0)).2
  rw [nSm_eq, tTxt_eq, nSc_app, nSc_word 0 (by decide)]
  unfold vHead mTot
  simp only [nSc_app, nSc_32, nSc_59]
  rw [nSc_dig (by omega), nSc_dig (by omega), nSc_dig (by omega), nSc_dig (by omega), nSc_word 4 (by decide), nSc_word 5 (by decide), nSc_word 6 (by decide), nSc_word 9 (by decide), nSc_rSta _ (Nat.le_refl _)]
  omega
section LO
variable {B : Nat} {L : List Int32} {g0 h : zH} {w : zW} {k : Int → zH → Option (Int × zH)}
theorem l_isW (I : LI B L g0 h) {r : List Int32} {y : Int} {m : Nat} (C : Cur B L h 1 (wT m) r y) (hm : m < 12) : q_X6_isWord h (h.2 (B + 497) 0) m = some 1 := by
  rw [I.r.1, l_isWord I C hm hm, if_pos rfl]
theorem l_noW (I : LI B L g0 h) {r : List Int32} {y : Int} {m n : Nat} (C : Cur B L h 1 (wT m) r y) (hm : m < 12) (hn : n < 12) (hne : n ≠ m) : q_X6_isWord h (h.2 (B + 497) 0) n = some 0 := by
  rw [I.r.1, l_isWord I C hm hn, if_neg hne]
theorem Cur.k1 {u r : List Int32} {y : Int} (C : Cur B L h 1 u r y) (I : LI B L g0 h) : ¬ h.1 (h.2 (B + 497) 0) 4 = 0 := by
  obtain ⟨s, _, _, z, _⟩ := C
  have z' : h.1 (B + 498) 4 = 1 := z
  rw [I.r.1]
  omega
theorem lp_end (I : LI B L g0 h) {u r : List Int32} {y : Int} (C : Cur B L h 0 u r y) {f : Nat} {i : Int} : q_X2_readText_L37 (B + 497) k (f + 1) i h = k i h := by
  obtain ⟨s, _, _, z, _⟩ := C
  have z' : h.1 (h.2 (B + 497) 0) 4 = 0 := by rw [I.r.1]; exact z
  rw [q_X2_readText_L37]
  by_cases q : 1000 ≤ i
  · rw [if_pos q]
  · rw [if_neg q, if_pos I.2.2.2.2.1, if_pos z']
theorem lp_0 (I : LI B L g0 h) {r : List Int32} {y : Int} (C : Cur B L h 1 (wT 0) r y) {f i : Nat} (hi : i < 1000) {h' : zH} (hr : q_X2_readCarriers h (B + 497) = some ((), h')) : q_X2_readText_L37 (B + 497) k (f + 1) (i : Int) h = q_X2_readText_L37 (B + 497) k f ((i + 1 : Nat) : Int) h' := by
  rw [q_X2_readText_L37, if_neg (by omega), if_pos I.2.2.2.2.1, if_neg (C.k1 I), l_isW I C (by decide), zbp_some, if_neg one0, hr, zbd_some]
  simp only [zlet_b]
  rw [zw_s (by omega)]
theorem lp_1 (I : LI B L g0 h) {r : List Int32} {y : Int} (C : Cur B L h 1 (wT 1) r y) {f i : Nat} (hi : i < 1000) {h' : zH} (hr : q_X2_readStation h (B + 497) = some ((), h')) : q_X2_readText_L37 (B + 497) k (f + 1) (i : Int) h = q_X2_readText_L37 (B + 497) k f ((i + 1 : Nat) : Int) h' := by
  rw [q_X2_readText_L37, if_neg (by omega), if_pos I.2.2.2.2.1, if_neg (C.k1 I), l_noW I C (by decide) (by decide) (by decide), zbp_some, if_pos rfl, l_isW I C (by decide), zbp_some, if_neg one0, hr, zbd_some]
  simp only [zlet_b]
  rw [zw_s (by omega)]
theorem lp_2 (I : LI B L g0 h) {r : List Int32} {y : Int} (C : Cur B L h 1 (wT 2) r y) {f i : Nat} (hi : i < 1000) {h' : zH} (hr : q_X2_readRain h (B + 497) = some ((), h')) : q_X2_readText_L37 (B + 497) k (f + 1) (i : Int) h = q_X2_readText_L37 (B + 497) k f ((i + 1 : Nat) : Int) h' := by
  rw [q_X2_readText_L37, if_neg (by omega), if_pos I.2.2.2.2.1, if_neg (C.k1 I), l_noW I C (by decide) (by decide) (by decide), zbp_some, if_pos rfl, l_noW I C (by decide) (by decide) (by decide), zbp_some, if_pos rfl, l_isW I C (by decide), zbp_some, if_neg one0, hr, zbd_some]
  simp only [zlet_b]
  rw [zw_s (by omega)]
theorem lp_3 (I : LI B L g0 h) {r : List Int32} {y : Int} (C : Cur B L h 1 (wT 3) r y) {f i : Nat} (hi : i < 1000) {h' : zH} (hr : q_X2_readCall h (B + 497) = some ((), h')) : q_X2_readText_L37 (B + 497) k (f + 1) (i : Int) h = q_X2_readText_L37 (B + 497) k f ((i + 1 : Nat) : Int) h' := by
  rw [q_X2_readText_L37, if_neg (by omega), if_pos I.2.2.2.2.1, if_neg (C.k1 I), l_noW I C (by decide) (by decide) (by decide), zbp_some, if_pos rfl, l_noW I C (by decide) (by decide) (by decide), zbp_some, if_pos rfl, l_noW I C (by decide) (by decide) (by decide), zbp_some, if_pos rfl, l_isW I C (by decide), zbp_some, if_neg one0, hr, zbd_some]
  simp only [zlet_b]
  rw [zw_s (by omega)]
theorem lp_4 (I : LI B L g0 h) {r : List Int32} {y : Int} (C : Cur B L h 1 (wT 4) r y) {f i : Nat} (hi : i < 1000) {h' : zH} (hr : q_X2_readSet h (B + 497) = some ((), h')) : q_X2_readText_L37 (B + 497) k (f + 1) (i : Int) h = q_X2_readText_L37 (B + 497) k f ((i + 1 : Nat) : Int) h' := by
  rw [q_X2_readText_L37, if_neg (by omega), if_pos I.2.2.2.2.1, if_neg (C.k1 I), l_noW I C (by decide) (by decide) (by decide), zbp_some, if_pos rfl, l_noW I C (by decide) (by decide) (by decide), zbp_some, if_pos rfl, l_noW I C (by decide) (by decide) (by decide), zbp_some, if_pos rfl, l_noW I C (by decide) (by decide) (by decide), zbp_some, if_pos rfl, l_isW I C (by decide), zbp_some, if_neg one0, hr, zbd_some]
  simp only [zlet_b]
  rw [zw_s (by omega)]
/-- the token that the rest begins with is the present one -/
def CuC (w : zW) (B : Nat) (L : List Int32) (h : zH) : Nat → Prop
  | 0 => Cur B L h 0 [] [] 0
  | d + 1 => Cur B L h 1 (wT 3) (vCal w (mCls w - (d + 1)) (rCal w d)) 0
def CuR (w : zW) (B : Nat) (L : List Int32) (h : zH) : Nat → Prop
  | 0 => CuC w B L h (mCls w)
  | d + 1 => Cur B L h 1 (wT 2) (vRai w (mRns w - (d + 1)) (rRai w d)) 0
def CuS (w : zW) (B : Nat) (L : List Int32) (h : zH) : Nat → Prop
  | 0 => CuR w B L h (mRns w)
  | d + 1 => Cur B L h 1 (wT 1) (vSta w (mS w - (d + 1)) (rSta w d)) 0
theorem nx_C : ∀ d, ∃ κ u r', Nx (rCal w d) κ u r' 0 ∧ ∀ h, Cur B L h κ u r' 0 → CuC w B L h d := by
  intro d
  cases d with
  | zero => exact ⟨_, _, _, nx_end, fun _ h => h⟩
  | succ d => exact ⟨_, _, _, nx_word (by decide) nl32, fun _ h => h⟩
theorem nx_R : ∀ d, ∃ κ u r', Nx (rRai w d) κ u r' 0 ∧ ∀ h, Cur B L h κ u r' 0 → CuR w B L h d := by
  intro d
  cases d with
  | zero =>
    obtain ⟨κ, u, r', a, b⟩ := nx_C (B := B) (L := L) (w := w) (mCls w)
    exact ⟨κ, u, r', a, b⟩
  | succ d => exact ⟨_, _, _, nx_word (by decide) nl32, fun _ h => h⟩
theorem nx_S : ∀ d, ∃ κ u r', Nx (rSta w d) κ u r' 0 ∧ ∀ h, Cur B L h κ u r' 0 → CuS w B L h d := by
  intro d
  cases d with
  | zero =>
    obtain ⟨κ, u, r', a, b⟩ := nx_R (B := B) (L := L) (w := w) (mRns w)
    exact ⟨κ, u, r', a, b⟩
  | succ d => exact ⟨_, _, _, nx_word (by decide) nl32, fun _ h => h⟩
theorem lp_calls : ∀ (d f i : Nat) (h : zH), d ≤ mCls w → d < f → i + d < 1000 → LI B L g0 h → PP w (mS w) (mRns w) (mCls w - d) (vw h.1 (B + 500)) → CuC w B L h d → ∃ h', q_X2_readText_L37 (B + 497) k f (i : Int) h = k ((i + d : Nat) : Int) h' ∧ LI B L g0 h' ∧ PP w (mS w) (mRns w) (mCls w) (vw h'.1 (B + 500)) := by
  have hs := mS_b (w := w)
  have hc := (l_calls (w := w) (h := zH0)).2
  have hr := (l_rains (w := w) (h := zH0)).2
  intro d
  induction d with
  | zero =>
    intro f i h _ hf _ I P C
    obtain ⟨f', rfl⟩ : ∃ f', f = f' + 1 := ⟨f - 1, by omega⟩
    exact ⟨h, lp_end I C, I, P⟩
  | succ d ih =>
    intro f i h hd hf hi I P C
    obtain ⟨f', rfl⟩ : ∃ f', f = f' + 1 := ⟨f - 1, by omega⟩
    have C' : Cur B L h 1 (wT 3) (vCal w (mCls w - (d + 1)) (rCal w d)) 0 := C
    have fc := (l_call (w := w) (h := zH0) (show mCls w - (d + 1) < 90 by omega)).2
    obtain ⟨κ, u, r', n1, n2⟩ := nx_C (B := B) (L := L) (w := w) d
    have hP4 := P.2.1.2.2.1
    obtain ⟨h', x, q1, q2, q3, q4⟩ := st_call I (n := mCls w - (d + 1)) C' P.1.1 P.2.2.2.2.2.1 (by omega) (P.named (by omega) fc.1) (P.named (by omega) fc.2.1) (by omega) (by omega) (by omega) (by omega) fc.2.2.1 (by omega) (by omega) (by omega) n1
    have P' := P.cal (by omega) (by omega) (by omega) fc.1 fc.2.1 fc.2.2.1 (by omega) (by omega) (by omega) q4
    rw [show mCls w - (d + 1) + 1 = mCls w - d by omega] at P'
    obtain ⟨h2, r1, r2⟩ := ih f' (i + 1) h' (by omega) (by omega) (by omega) q2 P' (n2 _ q3)
    exact ⟨h2, by rw [lp_3 I C' (by omega) q1, r1, show i + 1 + d = i + (d + 1) by omega], r2⟩
theorem lp_rains : ∀ (d f i : Nat) (h : zH), d ≤ mRns w → d + mCls w < f → i + (d + mCls w) < 1000 → LI B L g0 h → PP w (mS w) (mRns w - d) 0 (vw h.1 (B + 500)) → CuR w B L h d → ∃ h', q_X2_readText_L37 (B + 497) k f (i : Int) h = k ((i + (d + mCls w) : Nat) : Int) h' ∧ LI B L g0 h' ∧ PP w (mS w) (mRns w) (mCls w) (vw h'.1 (B + 500)) := by
  have hs := mS_b (w := w)
  have hc := (l_calls (w := w) (h := zH0)).2
  have hr := (l_rains (w := w) (h := zH0)).2
  intro d
  induction d with
  | zero =>
    intro f i h _ hf hi I P C
    rw [Nat.zero_add]
    exact lp_calls (mCls w) f i h (Nat.le_refl _) (by omega) (by omega) I (by rw [Nat.sub_self]; exact P) C
  | succ d ih =>
    intro f i h hd hf hi I P C
    obtain ⟨f', rfl⟩ : ∃ f', f = f' + 1 := ⟨f - 1, by omega⟩
    have C' : Cur B L h 1 (wT 2) (vRai w (mRns w - (d + 1)) (rRai w d)) 0 := C
    have fc := (l_rain (w := w) (h := zH0) (show mRns w - (d + 1) < 90 by omega)).2
    obtain ⟨κ, u, r', n1, n2⟩ := nx_R (B := B) (L := L) (w := w) d
    obtain ⟨h', q1, q2, q3, q4⟩ := st_rain I (n := mRns w - (d + 1)) C' P.1.1 P.2.2.2.1 (by omega) (P.named (by omega) fc.1) (by omega) (by omega) (by omega) (by omega) n1
    have P' := P.rai (by omega) (by omega) fc.1 (by omega) (by omega) (by omega)
    rw [← q4, show mRns w - (d + 1) + 1 = mRns w - d by omega] at P'
    obtain ⟨h2, r1, r2⟩ := ih f' (i + 1) h' (by omega) (by omega) (by omega) q2 P' (n2 _ q3)
    exact ⟨h2, by rw [lp_2 I C' (by omega) q1, r1, show i + 1 + (d + mCls w) = i + (d + 1 + mCls w) by omega], r2⟩
theorem lp_stations : ∀ (d f i : Nat) (h : zH), d ≤ mS w → d + (mRns w + mCls w) < f → i + (d + (mRns w + mCls w)) < 1000 → LI B L g0 h → PP w (mS w - d) 0 0 (vw h.1 (B + 500)) → CuS w B L h d → ∃ h', q_X2_readText_L37 (B + 497) k f (i : Int) h = k ((i + (d + (mRns w + mCls w)) : Nat) : Int) h' ∧ LI B L g0 h' ∧ PP w (mS w) (mRns w) (mCls w) (vw h'.1 (B + 500)) := by
  have hs := mS_b (w := w)
  have hc := (l_calls (w := w) (h := zH0)).2
  have hr := (l_rains (w := w) (h := zH0)).2
  intro d
  induction d with
  | zero =>
    intro f i h _ hf hi I P C
    rw [Nat.zero_add]
    exact lp_rains (mRns w) f i h (Nat.le_refl _) (by omega) (by omega) I (by rw [Nat.sub_self]; exact P) C
  | succ d ih =>
    intro f i h hd hf hi I P C
    obtain ⟨f', rfl⟩ : ∃ f', f = f' + 1 := ⟨f - 1, by omega⟩
    have C' : Cur B L h 1 (wT 1) (vSta w (mS w - (d + 1)) (rSta w d)) 0 := C
    have hk : mS w - (d + 1) < 100 := by omega
    have f1 := (l_delay (w := w) (h := zH0) hk).2
    have f2 := (l_nominal (w := w) (h := zH0) hk).2
    have f3 := (l_greatest (w := w) (h := zH0) hk).2
    have f4 := (l_drift (w := w) (h := zH0) hk).2
    obtain ⟨σ, s1, s2⟩ := sgT_ok (w := w) (k := mS w - (d + 1))
    obtain ⟨κ, u, r', n1, n2⟩ := nx_S (B := B) (L := L) (w := w) d
    obtain ⟨h', q1, q2, q3, q4⟩ := st_station I (n := mS w - (d + 1)) C' s1 P.1.1 P.2.1.2.2.1 (by omega) (P.fresh (by omega)) (by omega) (by omega) (by omega) (by omega) (by omega) n1
    rw [s2] at q4
    have P' := P.sta (by omega) (a := ((mDel w (mS w - (d + 1)) : Nat) : Int)) (d := iDri w (mS w - (d + 1))) (no := ((mNom w (mS w - (d + 1)) : Nat) : Int)) (g := ((mGre w (mS w - (d + 1)) : Nat) : Int)) (by omega) (by omega) (by omega)
    rw [← q4, show mS w - (d + 1) + 1 = mS w - d by omega] at P'
    obtain ⟨h2, r1, r2⟩ := ih f' (i + 1) h' (by omega) (by omega) (by omega) q2 P' (n2 _ q3)
    exact ⟨h2, by rw [lp_1 I C' (by omega) q1, r1, show i + 1 + (d + (mRns w + mCls w)) = i + (d + 1 + (mRns w + mCls w)) by omega], r2⟩
end LO
