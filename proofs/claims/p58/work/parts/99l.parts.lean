/-! The law's text: what the loader holds between its statements. -/
/-- n stations, m rains and k calls are read -/
def PP (w : zW) (n m k : Nat) (v : Nat → Nat → Int) : Prop := Good v ∧ Ex2 (nC w) (n : Int) 0 v ∧ (∀ i, i < n → v (5 + 2 * i) 0 = nmV i) ∧ v 0 5 = (m : Int) ∧ (∀ r, r < m → ∀ j, j < 4 → v (17 + r) j = ((mRn w r j : Nat) : Int)) ∧ v 0 7 = (k : Int) ∧ ∀ i, i < k → v (25 + i) 0 = ((mCl w i 0 : Nat) : Int) ∧ v (25 + i) 1 = ((mCl w i 1 : Nat) : Int) ∧ v (25 + i) 2 = ((mCl w i 2 : Nat) : Int) ∧ v (25 + i) 3 = 20 + ((mCl w i 3 : Nat) : Int)
section PP
variable {w : zW} {n m k : Nat} {v : Nat → Nat → Int}
theorem PP.named (P : PP w n m k v) (h6 : n ≤ 6) {i : Nat} (hi : i < n) : sNamed v (nmV i) = (i : Int) := by
  have e : nSt v = n := by
    have := P.2.1.2.2.1
    unfold nSt
    omega
  unfold sNamed
  rw [e]
  rcases zfs_spec (P := fun k => decide (v (5 + 2 * k) 0 = nmV i)) n 0 with ⟨z1, z2⟩ | ⟨k, z1, z2, z3, z4⟩
  · exfalso
    refine z2 i (by omega) (by omega) ?_
    rw [zdec]
    exact P.2.2.1 i hi
  · rw [z1]
    rw [zdec, P.2.2.1 k (by omega)] at z4
    show (k : Int) = _
    by_cases q : k = i
    · rw [q]
    · exact absurd z4 (nmV_ne k (by omega) i (by omega) q)
theorem PP.fresh (P : PP w n m k v) (h6 : n < 6) : sNamed v (nmV n) = -1 := by
  have e : nSt v = n := by
    have := P.2.1.2.2.1
    unfold nSt
    omega
  unfold sNamed
  rw [e]
  rcases zfs_spec (P := fun k => decide (v (5 + 2 * k) 0 = nmV n)) n 0 with ⟨z1, z2⟩ | ⟨k, z1, z2, z3, z4⟩
  · rw [z1]
  · rw [zdec, P.2.2.1 k (by omega)] at z4
    exact absurd z4 (nmV_ne k (by omega) n (by omega) (by omega))
theorem PP.sta (P : PP w n 0 0 v) (h6 : n < 6) {a d no g : Int} (ha : 0 ≤ a ∧ a ≤ 5000) (hd : -50 ≤ d ∧ d ≤ 50) (hg : 0 ≤ no ∧ no ≤ g ∧ g ≤ 999) : PP w (n + 1) 0 0 (vsn v n (nmV n) a d no g) := by
  obtain ⟨p1, ⟨⟨p2, _, _⟩, p3, p4, p5⟩, p6, p7, p8, p9, p10⟩ := P
  have z : ∀ o j, ¬ (o = 0 ∧ j = 3) → o ≠ 5 + 2 * n → o ≠ 6 + 2 * n → vsn v n (nmV n) a d no g o j = v o j := fun o j h1 h2 h3 => vsn_ne h1 h2 h3
  have z7 : vsn v n (nmV n) a d no g 0 7 = 0 := by rw [z 0 7 (by omega) (by omega) (by omega)]; exact p9
  refine ⟨sts_good p1 p4 h6 ha hd hg, ⟨⟨by rw [z 1 3 (by omega) (by omega) (by omega)]; exact p2, fun k hk => by omega, fun k hk => by omega⟩, by rw [z 0 1 (by omega) (by omega) (by omega)]; exact p3, vsn_n, by rw [z 0 0 (by omega) (by omega) (by omega)]; exact p5⟩, fun i hi => ?_, by rw [z 0 5 (by omega) (by omega) (by omega)]; exact p7, fun r hr => by omega, z7, fun i hi => by omega⟩
  by_cases q : i = n
  · subst q
    exact vsn_cs.1
  · rw [z _ _ (by omega) (by omega) (by omega)]
    exact p6 i (by omega)
theorem PP.rai (P : PP w n m 0 v) (h8 : m < 8) (h6 : n ≤ 6) (h0 : mRn w m 0 < n) (h12 : mRn w m 1 ≤ mRn w m 2) (h2 : mRn w m 2 < 10000) (h3 : 1 ≤ mRn w m 3 ∧ mRn w m 3 ≤ 400) : PP w n (m + 1) 0 (vra v m ((mRn w m 0 : Nat) : Int) ((mRn w m 1 : Nat) : Int) ((mRn w m 2 : Nat) : Int) ((mRn w m 3 : Nat) : Int)) := by
  obtain ⟨p1, ⟨⟨p2, _, _⟩, p3, p4, p5⟩, p6, p7, p8, p9, p10⟩ := P
  have hg := rns_good (v := v) (n := m) (a := ((mRn w m 0 : Nat) : Int)) (b := ((mRn w m 1 : Nat) : Int)) (c := ((mRn w m 2 : Nat) : Int)) (d := ((mRn w m 3 : Nat) : Int)) p1 p7 h8 (by omega) (by omega) (by omega)
  have hcs := vra_cs (v := v) (n := m) (a := ((mRn w m 0 : Nat) : Int)) (b := ((mRn w m 1 : Nat) : Int)) (c := ((mRn w m 2 : Nat) : Int)) (d := ((mRn w m 3 : Nat) : Int))
  have hn := vra_n (v := v) (n := m) (a := ((mRn w m 0 : Nat) : Int)) (b := ((mRn w m 1 : Nat) : Int)) (c := ((mRn w m 2 : Nat) : Int)) (d := ((mRn w m 3 : Nat) : Int))
  have z : ∀ o j, ¬ (o = 0 ∧ j = 5) → o ≠ 17 + m → vra v m ((mRn w m 0 : Nat) : Int) ((mRn w m 1 : Nat) : Int) ((mRn w m 2 : Nat) : Int) ((mRn w m 3 : Nat) : Int) o j = v o j := fun o j h1 h2 => vra_ne h1 h2
  generalize vra v m ((mRn w m 0 : Nat) : Int) ((mRn w m 1 : Nat) : Int) ((mRn w m 2 : Nat) : Int) ((mRn w m 3 : Nat) : Int) = u at hg hcs hn z
  have z7 : u 0 7 = 0 := by rw [z 0 7 (by omega) (by omega)]; exact p9
  refine ⟨hg, ⟨⟨by rw [z 1 3 (by omega) (by omega)]; exact p2, fun k hk => by omega, fun k hk => by omega⟩, by rw [z 0 1 (by omega) (by omega)]; exact p3, by rw [z 0 3 (by omega) (by omega)]; exact p4, by rw [z 0 0 (by omega) (by omega)]; exact p5⟩, fun i hi => by rw [z _ _ (by omega) (by omega)]; exact p6 i hi, hn, fun r hr j hj => ?_, z7, fun i hi => by omega⟩
  by_cases q : r = m
  · subst q
    obtain rfl | rfl | rfl | rfl : j = 0 ∨ j = 1 ∨ j = 2 ∨ j = 3 := by omega
    · exact hcs.1
    · exact hcs.2.1
    · exact hcs.2.2.1
    · exact hcs.2.2.2
  · rw [z _ _ (by omega) (by omega)]
    exact p8 r (by omega) j hj
theorem PP.cal (P : PP w n m k v) (h16 : k < 16) (h6 : n ≤ 6) (h8 : m ≤ 8) (h0 : mCl w k 0 < n) (h1 : mCl w k 1 < n) (h01 : mCl w k 0 ≠ mCl w k 1) (h2 : mCl w k 2 ≤ 9) (h3 : 1 ≤ mCl w k 3 ∧ mCl w k 3 ≤ 2000) {ho : Int} (hho : 1 ≤ ho ∧ ho ≤ 9999) {u : Nat → Nat → Int} {x : Int} (hB : BP (vnew v k ((mCl w k 0 : Nat) : Int) ((mCl w k 1 : Nat) : Int) ((mCl w k 2 : Nat) : Int) (v 1 3 + ((mCl w k 3 : Nat) : Int)) ho) k u x) : PP w n m (k + 1) u := by
  obtain ⟨p1, p2, p6, p7, p8, p9, p10⟩ := P
  have p4 := p2.2.2.1
  have p3 := p2.1.1
  have hw := WF.new p1.1 p9 h16 (s := ((mCl w k 0 : Nat) : Int)) (r := ((mCl w k 1 : Nat) : Int)) (p := ((mCl w k 2 : Nat) : Int)) (b := v 1 3 + ((mCl w k 3 : Nat) : Int)) (ho := ho) (by omega) (by omega) (by omega) (by omega) (by omega) hho
  have hG : Good u := new_good p1 p9 h16 (by omega) (by omega) (by omega) (by omega) (by omega) hho hB
  have hE : Ex2 (nC w) (n : Int) 0 u := new_ex2 hw p2 p9 (by omega) hB
  obtain ⟨c0, c1, c2, c3, _⟩ := vnew_c (v := v) (n := k) (s := ((mCl w k 0 : Nat) : Int)) (r := ((mCl w k 1 : Nat) : Int)) (p := ((mCl w k 2 : Nat) : Int)) (b := v 1 3 + ((mCl w k 3 : Nat) : Int)) (ho := ho)
  have z : ∀ o j, ¬ (o = 0 ∧ j = 7) → o ≠ 25 + k → vnew v k ((mCl w k 0 : Nat) : Int) ((mCl w k 1 : Nat) : Int) ((mCl w k 2 : Nat) : Int) (v 1 3 + ((mCl w k 3 : Nat) : Int)) ho o j = v o j := fun o j h1 h2 => vnew_ne h1 h2
  have zn := vnew_n (v := v) (n := k) (s := ((mCl w k 0 : Nat) : Int)) (r := ((mCl w k 1 : Nat) : Int)) (p := ((mCl w k 2 : Nat) : Int)) (b := v 1 3 + ((mCl w k 3 : Nat) : Int)) (ho := ho)
  generalize vnew v k ((mCl w k 0 : Nat) : Int) ((mCl w k 1 : Nat) : Int) ((mCl w k 2 : Nat) : Int) (v 1 3 + ((mCl w k 3 : Nat) : Int)) ho = v1 at hB hw c0 c1 c2 c3 z zn
  have zu : ∀ o j, ¬ (o = 25 + k ∧ (j = 5 ∨ j = 6 ∨ j = 7 ∨ j = 9)) → u o j = v1 o j := fun o j hj => by
    rcases hB with ⟨c, s, _, rfl, _⟩ | ⟨_, rfl, _⟩
    · exact vpl_ne hj
    · rfl
  refine ⟨hG, hE, fun i hi => ?_, ?_, fun r hr j hj => ?_, ?_, fun i hi => ?_⟩
  · rw [zu _ _ (by omega), z _ _ (by omega) (by omega)]
    exact p6 i hi
  · rw [zu _ _ (by omega), z _ _ (by omega) (by omega)]
    exact p7
  · rw [zu _ _ (by omega), z _ _ (by omega) (by omega)]
    exact p8 r hr j hj
  · rw [zu _ _ (by omega), zn]
  · by_cases q : i = k
    · subst q
      rw [zu _ _ (by omega), zu _ _ (by omega), zu _ _ (by omega), zu _ _ (by omega), c0, c1, c2, c3, p3]
      exact ⟨rfl, rfl, rfl, rfl⟩
    · rw [zu _ _ (by omega), zu _ _ (by omega), zu _ _ (by omega), zu _ _ (by omega), z _ _ (by omega) (by omega), z _ _ (by omega) (by omega), z _ _ (by omega) (by omega), z _ _ (by omega) (by omega)]
      exact p10 i (by omega)
end PP
/-- the rests of the text: from the last d calls, rains, stations on -/
def vCal (w : zW) (k : Nat) (r : List Int32) : List Int32 := 32 :: (tNm (mCl w k 0) ++ 32 :: (tNm (mCl w k 1) ++ 32 :: (yDig (mCl w k 2) ++ 32 :: (yDig (mCl w k 3) ++ 32 :: (yDig (mCl w k 4) ++ 59 :: r)))))
def vRai (w : zW) (k : Nat) (r : List Int32) : List Int32 := 32 :: (tNm (mRn w k 0) ++ 32 :: (yDig (mRn w k 1) ++ 32 :: (yDig (mRn w k 2) ++ 32 :: (yDig (mRn w k 3) ++ 59 :: r))))
def sgT (w : zW) (k : Nat) : List Int32 := if iDri w k < 0 then [45] else []
def vSta (w : zW) (k : Nat) (r : List Int32) : List Int32 := 32 :: (tNm k ++ 32 :: (yDig (mDel w k) ++ 32 :: (sgT w k ++ (yDig (iDri w k).natAbs ++ 32 :: (yDig (mNom w k) ++ 32 :: (yDig (mGre w k) ++ 59 :: r))))))
theorem tCal_eq {w : zW} {k : Nat} {r : List Int32} : tCal w k ++ r = wT 3 ++ vCal w k r := by
  unfold tCal
  simp only [List.append_assoc]
  rfl
theorem tRai_eq {w : zW} {k : Nat} {r : List Int32} : tRai w k ++ r = wT 2 ++ vRai w k r := by
  unfold tRai
  simp only [List.append_assoc]
  rfl
theorem tSta_eq {w : zW} {k : Nat} {r : List Int32} : tSta w k ++ r = wT 1 ++ vSta w k r := by
  unfold tSta vSta sgT
  simp only [List.append_assoc]
  by_cases q : iDri w k < 0
  · rw [if_pos q, if_pos q]
    rfl
  · rw [if_neg q, if_neg q]
    rfl
def vHead (w : zW) (r : List Int32) : List Int32 := 32 :: (yDig (mC w) ++ 59 :: (wT 4 ++ 32 :: (wT 5 ++ 32 :: (yDig (mLen w) ++ 59 :: (wT 4 ++ 32 :: (wT 6 ++ 32 :: (yDig (mGrd w) ++ 59 :: (wT 4 ++ 32 :: (wT 9 ++ 32 :: (yDig (mLev w) ++ 59 :: r))))))))))
theorem tHead_eq {w : zW} {r : List Int32} : tHead w ++ r = wT 0 ++ vHead w r := by
  unfold tHead
  simp only [List.append_assoc]
  rfl
def rCal (w : zW) : Nat → List Int32
  | 0 => []
  | d + 1 => wT 3 ++ vCal w (mCls w - (d + 1)) (rCal w d)
def rRai (w : zW) : Nat → List Int32
  | 0 => rCal w (mCls w)
  | d + 1 => wT 2 ++ vRai w (mRns w - (d + 1)) (rRai w d)
def rSta (w : zW) : Nat → List Int32
  | 0 => rRai w (mRns w)
  | d + 1 => wT 1 ++ vSta w (mS w - (d + 1)) (rSta w d)
theorem rCal_all {w : zW} : ∀ d, d ≤ mCls w → tCa w (mCls w - d) ++ rCal w d = tTxt w := by
  intro d
  induction d with
  | zero => intro _; exact List.append_nil _
  | succ d ih =>
    intro hd
    have e : mCls w - d = mCls w - (d + 1) + 1 := by omega
    rw [← ih (by omega), e, tCa_s]
    show tCa w (mCls w - (d + 1)) ++ (wT 3 ++ vCal w (mCls w - (d + 1)) (rCal w d)) = _
    rw [← tCal_eq, List.append_assoc]
theorem rRai_all {w : zW} : ∀ d, d ≤ mRns w → tRn w (mRns w - d) ++ rRai w d = tTxt w := by
  intro d
  induction d with
  | zero =>
    intro _
    have := rCal_all (w := w) (mCls w) (Nat.le_refl _)
    rw [Nat.sub_self] at this
    rw [← this]
    show tRn w (mRns w) ++ rCal w (mCls w) = _
    unfold tCa
    simp
  | succ d ih =>
    intro hd
    have e : mRns w - d = mRns w - (d + 1) + 1 := by omega
    rw [← ih (by omega), e, tRn_s]
    show tRn w (mRns w - (d + 1)) ++ (wT 2 ++ vRai w (mRns w - (d + 1)) (rRai w d)) = _
    rw [← tRai_eq, List.append_assoc]
theorem rSta_all {w : zW} : ∀ d, d ≤ mS w → tSt w (mS w - d) ++ rSta w d = tTxt w := by
  intro d
  induction d with
  | zero =>
    intro _
    have := rRai_all (w := w) (mRns w) (Nat.le_refl _)
    rw [Nat.sub_self] at this
    rw [← this]
    show tSt w (mS w) ++ rRai w (mRns w) = _
    unfold tRn
    simp
  | succ d ih =>
    intro hd
    have e : mS w - d = mS w - (d + 1) + 1 := by omega
    rw [← ih (by omega), e, tSt_s]
    show tSt w (mS w - (d + 1)) ++ (wT 1 ++ vSta w (mS w - (d + 1)) (rSta w d)) = _
    rw [← tSta_eq, List.append_assoc]
theorem tTxt_eq {w : zW} : tTxt w = wT 0 ++ vHead w (rSta w (mS w)) := by
  have := rSta_all (w := w) (mS w) (Nat.le_refl _)
  rw [Nat.sub_self] at this
  rw [← this, ← tHead_eq]
  unfold tSt
  simp
/-- the semicolons of a list -/
def nSc : List Int32 → Nat
  | [] => 0
  | c :: u => (if c.toInt = 59 then 1 else 0) + nSc u
theorem nSc_app {u r : List Int32} : nSc (u ++ r) = nSc u + nSc r := by
  induction u with
  | nil => exact (Nat.zero_add _).symm
  | cons c u ih =>
    show (if c.toInt = 59 then 1 else 0) + nSc (u ++ r) = (if c.toInt = 59 then 1 else 0) + nSc u + nSc r
    rw [ih, Nat.add_assoc]
theorem nSc_no {u : List Int32} (h : ∀ x ∈ u, x.toInt ≠ 59) : nSc u = 0 := by
  induction u with
  | nil => rfl
  | cons c u ih =>
    show (if c.toInt = 59 then 1 else 0) + nSc u = 0
    rw [if_neg (h c List.mem_cons_self), ih (fun x hx => h x (List.mem_cons_of_mem _ hx))]
theorem nSc_dig {n : Nat} (hn : n < 10000) : nSc (yDig n) = 0 := nSc_no fun x hx => by
  obtain ⟨i, hi, rfl⟩ := List.getElem_of_mem hx
  have := (yDig_ok hn).2.2.1 i hi
  unfold tL at this
  rw [List.getD_eq_getElem?_getD, List.getElem?_eq_getElem hi] at this
  have h2 : 48 ≤ (yDig n)[i].toInt ∧ (yDig n)[i].toInt ≤ 57 := this
  omega
theorem nSc_word : ∀ m, m < 12 → nSc (wT m) = 0 := by decide
theorem nSc_name {k : Nat} (hk : k < 10) : nSc (tNm k) = 0 := by
  show (if (115 : Int32).toInt = 59 then 1 else 0) + ((if (zi (97 + (k : Int))).toInt = 59 then 1 else 0) + 0) = 0
  rw [zi_toInt ⟨by omega, by omega⟩, if_neg (by decide), if_neg (by omega)]
theorem nSc_32 {r : List Int32} : nSc (32 :: r) = nSc r := by
  show (if (32 : Int32).toInt = 59 then 1 else 0) + nSc r = nSc r
  rw [if_neg (by decide), Nat.zero_add]
theorem nSc_59 {r : List Int32} : nSc (59 :: r) = 1 + nSc r := by
  show (if (59 : Int32).toInt = 59 then 1 else 0) + nSc r = _
  rw [if_pos (by decide)]
theorem nSm_eq {u : List Int32} : nSm u u.length = nSc u := by
  have key : ∀ (u r : List Int32), nSm (u ++ r) u.length = nSc u := by
    intro u
    induction hn : u.length generalizing u with
    | zero =>
      intro r
      rw [List.length_eq_zero_iff.mp hn]
      rfl
    | succ n ih =>
      intro r
      obtain ⟨u', c, rfl⟩ : ∃ u' c, u = u' ++ [c] := ⟨u.dropLast, u.getLast (fun e => by rw [e] at hn; cases hn), (List.dropLast_concat_getLast _).symm⟩
      have hl : u'.length = n := by
        rw [List.length_append] at hn
        have : ([c] : List Int32).length = 1 := rfl
        omega
      rw [nSm_s, nSc_app]
      have e := ih u' hl ([c] ++ r)
      rw [← List.append_assoc] at e
      have eg : ((u' ++ [c] ++ r).getD n 0) = c := by
        rw [List.append_assoc, ← hl, List.getD_eq_getElem?_getD, List.getElem?_append_right (Nat.le_refl _), Nat.sub_self]
        rfl
      rw [e, eg]
      rfl
  have := key u []
  rw [List.append_nil] at this
  exact this
