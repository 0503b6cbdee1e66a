/-! Reading a known text: the tokens of a list. -/
theorem tL_drop {L : List Int32} {s i : Nat} : tL L (s + i) = tL (L.drop s) i := by
  unfold tL
  rw [List.getD_eq_getElem?_getD, List.getD_eq_getElem?_getD, List.getElem?_drop]
theorem tL_left {u r : List Int32} {i : Nat} (h : i < u.length) : tL (u ++ r) i = tL u i := by
  unfold tL
  rw [List.getD_eq_getElem?_getD, List.getD_eq_getElem?_getD, List.getElem?_append_left h]
theorem tL_right {u r : List Int32} {i : Nat} : tL (u ++ r) (u.length + i) = tL r i := by
  unfold tL
  rw [List.getD_eq_getElem?_getD, List.getD_eq_getElem?_getD, List.getElem?_append_right (by omega), Nat.add_sub_cancel_left]
theorem tL_mem {u : List Int32} {i : Nat} (h : i < u.length) : ∃ x ∈ u, tL u i = x.toInt := by
  refine ⟨u[i], List.getElem_mem h, ?_⟩
  unfold tL
  rw [List.getD_eq_getElem?_getD, List.getElem?_eq_getElem h]
  rfl
theorem tL_cons {c : Int32} {u : List Int32} {i : Nat} : tL (c :: u) (i + 1) = tL u i := rfl
theorem yC_v {d : Nat} (hd : d < 10) : (yC d).toInt = (d : Int) + 48 := by
  unfold yC
  rw [zi_toInt ⟨by omega, by omega⟩]
theorem yDig_ok {n : Nat} (hn : n < 10000) : 1 ≤ (yDig n).length ∧ (yDig n).length ≤ 4 ∧ (∀ i, i < (yDig n).length → isDg (tL (yDig n) i)) ∧ dgv (tL (yDig n)) 0 (yDig n).length = (n : Int) := by
  unfold yDig
  have dg : ∀ d : Nat, d < 10 → isDg (yC d).toInt := fun d hd => by
    rw [yC_v hd]
    unfold isDg
    omega
  split
  · rename_i h
    refine ⟨Nat.le_of_ble_eq_true rfl, Nat.le_of_ble_eq_true rfl, fun i hi => ?_, ?_⟩
    · obtain rfl : i = 0 := by have : i < 1 := hi; omega
      exact dg n h
    · show 10 * 0 + (yC n).toInt - 48 = _
      rw [yC_v h]; omega
  split
  · rename_i h1 h
    refine ⟨Nat.le_of_ble_eq_true rfl, Nat.le_of_ble_eq_true rfl, fun i hi => ?_, ?_⟩
    · obtain rfl | rfl : i = 0 ∨ i = 1 := by have : i < 2 := hi; omega
      · exact dg _ (by omega)
      · exact dg _ (by omega)
    · show 10 * (10 * 0 + (yC (n / 10)).toInt - 48) + (yC (n % 10)).toInt - 48 = _
      rw [yC_v (by omega), yC_v (by omega)]; omega
  split
  · rename_i h1 h2 h
    refine ⟨Nat.le_of_ble_eq_true rfl, Nat.le_of_ble_eq_true rfl, fun i hi => ?_, ?_⟩
    · obtain rfl | rfl | rfl : i = 0 ∨ i = 1 ∨ i = 2 := by have : i < 3 := hi; omega
      · exact dg _ (by omega)
      · exact dg _ (by omega)
      · exact dg _ (by omega)
    · show 10 * (10 * (10 * 0 + (yC (n / 100)).toInt - 48) + (yC (n / 10 % 10)).toInt - 48) + (yC (n % 10)).toInt - 48 = _
      rw [yC_v (by omega), yC_v (by omega), yC_v (by omega)]; omega
  · rename_i h1 h2 h3
    refine ⟨Nat.le_of_ble_eq_true rfl, Nat.le_of_ble_eq_true rfl, fun i hi => ?_, ?_⟩
    · obtain rfl | rfl | rfl | rfl : i = 0 ∨ i = 1 ∨ i = 2 ∨ i = 3 := by have : i < 4 := hi; omega
      · exact dg _ (by omega)
      · exact dg _ (by omega)
      · exact dg _ (by omega)
      · exact dg _ (by omega)
    · show 10 * (10 * (10 * (10 * 0 + (yC (n / 1000)).toInt - 48) + (yC (n / 100 % 10)).toInt - 48) + (yC (n / 10 % 10)).toInt - 48) + (yC (n % 10)).toInt - 48 = _
      rw [yC_v (by omega), yC_v (by omega), yC_v (by omega), yC_v (by omega)]; omega
theorem dgv_at {t u : Nat → Int} {a : Nat} : ∀ n, (∀ i, i < n → t (a + i) = u i) → dgv t a n = dgv u 0 n := by
  intro n
  induction n with
  | zero => intro _; rfl
  | succ n ih =>
    intro h
    show 10 * dgv t a n + t (a + n) - 48 = 10 * dgv u 0 n + u (0 + n) - 48
    rw [ih (fun i hi => h i (by omega)), h n (by omega), Nat.zero_add]
/-- the rest r of a text goes on with the token u of kind κ and value y -/
def Nx (r : List Int32) (κ : Nat) (u r' : List Int32) (y : Int) : Prop := ∃ sp : List Int32, (sp = [] ∨ sp = [32]) ∧ r = sp ++ (u ++ r') ∧ ((κ = 0 ∧ sp = [] ∧ u = [] ∧ r' = []) ∨ (κ = 1 ∧ u ≠ [] ∧ (∀ x ∈ u, isLt x.toInt) ∧ ¬ isLt (tL r' 0)) ∨ (κ = 2 ∧ (∃ n : Nat, n < 10000 ∧ u = yDig n ∧ y = (n : Int)) ∧ ¬ isDg (tL r' 0)) ∨ (κ = 3 ∧ u = [59]) ∨ (κ = 4 ∧ u = [45]))
theorem Nx.tk {L r u r' : List Int32} {κ x : Nat} {y : Int} (hN : Nx r κ u r' y) (hd : L.drop x = r) (hx : x + r.length = L.length) : ∃ a, (a = x ∨ (a = x + 1 ∧ x < L.length ∧ tL L x = 32)) ∧ TkP (tL L) L.length a (a + u.length) κ ∧ L.drop a = u ++ r' ∧ a + u.length + r'.length = L.length ∧ (κ = 2 → dgv (tL L) a (a + u.length - a) = y) := by
  obtain ⟨sp, hs, hr, hk⟩ := hN
  have hlr : r.length = sp.length + (u.length + r'.length) := by rw [hr, List.length_append, List.length_append]
  have ha : (x + sp.length = x ∨ (x + sp.length = x + 1 ∧ x < L.length ∧ tL L x = 32)) := by
    rcases hs with rfl | rfl
    · exact Or.inl rfl
    · refine Or.inr ⟨rfl, ?_, ?_⟩
      · have : ([32] : List Int32).length = 1 := rfl
        omega
      · have := tL_drop (L := L) (s := x) (i := 0)
        rw [Nat.add_zero, hd, hr] at this
        rw [this]
        rfl
  have hda : L.drop (x + sp.length) = u ++ r' := by
    rw [← List.drop_drop, hd, hr, List.drop_left]
  have hall : x + sp.length + u.length + r'.length = L.length := by omega
  have hat : ∀ i, tL L (x + sp.length + i) = tL (u ++ r') i := fun i => by rw [tL_drop, hda]
  have hat0 : tL L (x + sp.length) = tL (u ++ r') 0 := hat 0
  have hatb : tL L (x + sp.length + u.length) = tL r' 0 := by rw [hat]; exact tL_right (i := 0)
  refine ⟨x + sp.length, ha, ?_, hda, hall, ?_⟩
  · clear ha
    generalize x + sp.length = a at hat hat0 hatb hda hall
    rcases hk with ⟨rfl, z1, rfl, rfl⟩ | ⟨rfl, z1, z2, z3⟩ | ⟨rfl, ⟨n, n1, rfl, n3⟩, z3⟩ | ⟨rfl, rfl⟩ | ⟨rfl, rfl⟩
    · have e : a = L.length := by rw [← hall]; rfl
      exact ⟨Nat.le_refl _, by rw [← hall]; exact Nat.le_refl _, fun h => by omega, Or.inl ⟨rfl, e⟩⟩
    · have hul : 0 < u.length := List.length_pos_iff.mpr z1
      have hl : ∀ i, i < u.length → isLt (tL L (a + i)) := fun i hi => by
        rw [hat, tL_left hi]
        obtain ⟨c, c1, c2⟩ := tL_mem hi
        rw [c2]
        exact z2 c c1
      have h0 := hl 0 hul
      rw [Nat.add_zero] at h0
      refine ⟨by omega, by omega, fun _ => by unfold isLt at h0; omega, Or.inr (Or.inl ⟨rfl, by omega, fun i i1 i2 => ?_, fun _ => by rw [hatb]; exact z3⟩)⟩
      have := hl (i - a) (by omega)
      rw [show a + (i - a) = i by omega] at this
      exact this
    · obtain ⟨d1, d2, d3, _⟩ := yDig_ok n1
      have hl : ∀ i, i < (yDig n).length → isDg (tL L (a + i)) := fun i hi => by
        rw [hat, tL_left hi]
        exact d3 i hi
      have h0 := hl 0 (by omega)
      rw [Nat.add_zero] at h0
      exact ⟨by omega, by omega, fun _ => by unfold isDg at h0; omega, Or.inr (Or.inr (Or.inl ⟨rfl, by omega, by omega, fun i hi => hl i (by omega), fun _ => by rw [hatb]; exact z3⟩))⟩
    · have e : tL L a = 59 := hat0
      have e1 : ([59] : List Int32).length = 1 := rfl
      exact ⟨by omega, by omega, fun _ => by omega, Or.inr (Or.inr (Or.inr (Or.inl ⟨rfl, by rw [e1], e⟩)))⟩
    · have e : tL L a = 45 := hat0
      have e1 : ([45] : List Int32).length = 1 := rfl
      exact ⟨by omega, by omega, fun _ => by omega, Or.inr (Or.inr (Or.inr (Or.inr ⟨rfl, by rw [e1], e⟩)))⟩
  · intro hκ
    rcases hk with ⟨z, _⟩ | ⟨z, _⟩ | ⟨_, ⟨n, n1, rfl, n3⟩, z3⟩ | ⟨z, _⟩ | ⟨z, _⟩
    · omega
    · omega
    · obtain ⟨d1, d2, d3, d4⟩ := yDig_ok n1
      rw [Nat.add_sub_cancel_left, dgv_at (u := tL (yDig n)) _ (fun i hi => by rw [hat, tL_left hi]), d4, n3]
    · omega
    · omega
/-- what reading leaves alone -/
def Kp (B : Nat) (h h' : zH) : Prop := h'.2 = h.2 ∧ ∀ q j, ¬ (q = B + 498 ∧ 3 ≤ j ∧ j ≤ 6) → h'.1 q j = h.1 q j
theorem Kp.rf {B : Nat} {h : zH} : Kp B h h := ⟨rfl, fun _ _ _ => rfl⟩
theorem Kp.tr {B : Nat} {h h' h'' : zH} (a : Kp B h h') (b : Kp B h' h'') : Kp B h h'' := ⟨b.1.trans a.1, fun q j z => (b.2 q j z).trans (a.2 q j z)⟩
theorem Kp.vw {B : Nat} {h h' : zH} (a : Kp B h h') : vw h'.1 (B + 500) = vw h.1 (B + 500) := vw_ext fun o ho j => a.2 _ _ (by omega)
theorem Kp.ld {B : Nat} {h h' : zH} (a : Kp B h h') (j : Nat) : h'.1 (B + 497) j = h.1 (B + 497) j := a.2 _ _ (by omega)
/-- the loader while it reads L without an error, from g0 on -/
def LI (B : Nat) (L : List Int32) (g0 h : zH) : Prop := zInv B g0 ∧ Tb (tL L) L.length ∧ h.2 = g0.2 ∧ TxC (B + 498) (tL L) L.length h ∧ h.1 (B + 497) 3 = 0 ∧ ∀ q j, q ≠ B + 497 → ¬ (q = B + 498 ∧ j ≠ 0) → ¬ (B + 500 ≤ q ∧ q < B + 541) → h.1 q j = g0.1 q j
section CU
variable {B : Nat} {L : List Int32} {g0 h : zH}
theorem LI.r (I : LI B L g0 h) : h.2 (B + 497) 0 = B + 498 ∧ h.2 (B + 497) 1 = B + 500 ∧ h.2 (B + 498) 1 = B + 498 + 1 := by
  rw [I.2.2.1]
  exact I.1.r497
theorem LI.cly (I : LI B L g0 h) : cly h.2 (B + 500) := by
  rw [I.2.2.1]
  exact i_clyR I.1
theorem LI.kp (I : LI B L g0 h) {h' : zH} (k : Kp B h h') : LI B L g0 h' := by
  obtain ⟨i1, i2, i3, ⟨c1, c2, c3⟩, i5, i6⟩ := I
  exact ⟨i1, i2, k.1.trans i3, ⟨by rw [k.2 _ _ (by omega)]; exact c1, by rw [k.1]; exact c2, fun i hi => by rw [k.2 _ _ (by omega)]; exact c3 i hi⟩, by rw [k.ld]; exact i5, fun q j z1 z2 z3 => by rw [k.2 _ _ (by omega)]; exact i6 q j z1 z2 z3⟩
/-- the present token -/
def Cur (B : Nat) (L : List Int32) (h : zH) (κ : Nat) (u r : List Int32) (y : Int) : Prop := ∃ s : Nat, h.1 (B + 498) 5 = (s : Int) ∧ h.1 (B + 498) 3 = ((s + u.length : Nat) : Int) ∧ h.1 (B + 498) 4 = (κ : Int) ∧ (κ = 2 → h.1 (B + 498) 6 = y) ∧ L.drop s = u ++ r ∧ s + u.length + r.length = L.length
theorem l_step (I : LI B L g0 h) {x κ : Nat} {r u r' : List Int32} {y : Int} (h3 : h.1 (B + 498) 3 = (x : Int)) (hd : L.drop x = r) (hx : x + r.length = L.length) (hN : Nx r κ u r' y) : ∃ h', q_X6_step h (B + 498) = some ((), h') ∧ Kp B h h' ∧ Cur B L h' κ u r' y := by
  obtain ⟨a, a1, a2, a3, a4, a5⟩ := hN.tk hd hx
  obtain ⟨h', p1, p2, _, p4, p5, p6, p7, p8⟩ := e6_step I.2.1 I.2.2.2.1 h3 a1 a2
  exact ⟨h', p1, ⟨p2, p8⟩, a, p4, p5, p6, fun e => (p7 e).trans (a5 e), a3, a4⟩
theorem l_accept (I : LI B L g0 h) {κ κ' : Nat} {u r u' r' : List Int32} {y y' : Int} (C : Cur B L h κ u r y) (hN : Nx r κ' u' r' y') : ∃ h', q_X2_accept h (B + 497) = some ((), h') ∧ Kp B h h' ∧ Cur B L h' κ' u' r' y' := by
  obtain ⟨s, s1, s2, s3, s4, s5, s6⟩ := C
  obtain ⟨h', p1, p2, p3⟩ := l_step I s2 (by rw [← List.drop_drop, s5, List.drop_left]) s6 hN
  refine ⟨h', ?_, p2, p3⟩
  unfold q_X2_accept
  rw [if_pos I.2.2.2.2.1, I.r.1, p1, zbd_some]
theorem l_number (I : LI B L g0 h) {κ' : Nat} {u r u' r' : List Int32} {y y' lo hi : Int} (C : Cur B L h 2 u r y) (hy : lo ≤ y ∧ y ≤ hi) (hN : Nx r κ' u' r' y') : ∃ h', q_X2_readNumber h (B + 497) lo hi = some (y, h') ∧ Kp B h h' ∧ Cur B L h' κ' u' r' y' := by
  obtain ⟨h', p1, p2, p3⟩ := l_accept I C hN
  obtain ⟨s, s1, s2, s3, s4, s5, s6⟩ := C
  refine ⟨h', ?_, p2, p3⟩
  have s3' : h.1 (B + 498) 4 = 2 := s3
  unfold q_X2_readNumber
  rw [I.r.1, if_pos s3', s4 rfl, e_inR hy.1 hy.2, zbp_some, if_neg one0]
  simp only [zlet_b]
  rw [p1, zbd_some]
theorem l_semi (I : LI B L g0 h) {κ' : Nat} {u r u' r' : List Int32} {y y' : Int} (C : Cur B L h 3 u r y) (hN : Nx r κ' u' r' y') : ∃ h', q_X2_readSemicolon h (B + 497) = some ((), h') ∧ Kp B h h' ∧ Cur B L h' κ' u' r' y' := by
  obtain ⟨h', p1, p2, p3⟩ := l_accept I C hN
  obtain ⟨s, s1, s2, s3, s4, s5, s6⟩ := C
  refine ⟨h', ?_, p2, p3⟩
  have s3' : h.1 (B + 498) 4 = 3 := s3
  unfold q_X2_readSemicolon
  rw [I.r.1, if_pos s3', p1, zbd_some]
/-- the format's words -/
def wT (n : Nat) : List Int32 := zsB.getD n []
theorem wT_len : ∀ n, n < 12 → (wT n).length = wln n := by decide
theorem wT_lt : ∀ n, n < 12 → wT n ≠ [] ∧ ∀ x ∈ wT n, isLt x.toInt := by
  unfold isLt
  decide
theorem Cur.mt {u r : List Int32} {y : Int} {s n : Nat} (s5 : L.drop s = u ++ r) (hn : n < 12) : Mtb (tL L) s (s + u.length) n = true ↔ (u.length = wln n ∧ ∀ j, j < wln n → tL u j = wch n j) := by
  rw [Mtb_iff, Nat.add_sub_cancel_left]
  constructor
  · rintro ⟨a, b⟩
    refine ⟨a, fun j hj => ?_⟩
    have := b j hj
    rw [tL_drop, s5, tL_left (by omega)] at this
    exact this
  · rintro ⟨a, b⟩
    refine ⟨a, fun j hj => ?_⟩
    rw [tL_drop, s5, tL_left (by omega)]
    exact b j hj
theorem Cur.mw {r : List Int32} {s m n : Nat} (s5 : L.drop s = wT m ++ r) (hm : m < 12) (hn : n < 12) : Mtb (tL L) s (s + (wT m).length) n = true ↔ n = m := by
  have hself : Mtb (tL L) s (s + (wT m).length) m = true := (Cur.mt (y := 0) s5 hm).mpr ⟨wT_len m hm, fun j _ => rfl⟩
  constructor
  · intro h
    exact Mtb_one hn hm h hself
  · rintro rfl
    exact hself
theorem Cur.mn {r : List Int32} {s k n : Nat} (s5 : L.drop s = tNm k ++ r) (hn : n < 12) : ¬ Mtb (tL L) s (s + (tNm k).length) n = true := fun h => by
  have a := ((Cur.mt (y := 0) s5 hn).mp h).1
  have b := wln_b n hn
  have c : (tNm k).length = 2 := rfl
  omega
theorem l_isWord (I : LI B L g0 h) {r : List Int32} {y : Int} {m n : Nat} (C : Cur B L h 1 (wT m) r y) (hm : m < 12) (hn : n < 12) : q_X6_isWord h (B + 498) n = some (if n = m then 1 else 0) := by
  obtain ⟨s, s1, s2, s3, s4, s5, s6⟩ := C
  have s3' : h.1 (B + 498) 4 = 1 := s3
  rw [e6_isWord I.2.1 I.2.2.2.1 s1 s2 (by omega) (by omega) hn]
  have e := Cur.mw s5 hm hn
  by_cases q : n = m
  · rw [if_pos ⟨s3', e.mpr q⟩, if_pos q]
  · rw [if_neg (fun z => q (e.mp z.2)), if_neg q]
theorem l_notWord (I : LI B L g0 h) {r : List Int32} {y : Int} {k n : Nat} (C : Cur B L h 1 (tNm k) r y) (hn : n < 12) : q_X6_isWord h (B + 498) n = some 0 := by
  obtain ⟨s, s1, s2, s3, s4, s5, s6⟩ := C
  rw [e6_isWord I.2.1 I.2.2.2.1 s1 s2 (by omega) (by omega) hn, if_neg (fun z => Cur.mn s5 hn z.2)]
theorem l_setting (I : LI B L g0 h) {r : List Int32} {y : Int} {m : Nat} (C : Cur B L h 1 (wT (5 + m)) r y) (hm : m < 7) : q_X2_settingHere h (B + 497) = some (m : Int) := by
  obtain ⟨s, s1, s2, s3, s4, s5, s6⟩ := C
  have s3' : h.1 (B + 498) 4 = 1 := s3
  have e := (wdx_iff (by omega)).mp ((Cur.mw s5 (by omega) (by omega)).mpr rfl)
  rw [e2_setting I.r.1 I.2.1 I.2.2.2.1 s1 s2 (by omega) (by omega), e, if_pos ⟨s3', by omega⟩]
  exact congrArg some (by omega)
theorem l_noSetting (I : LI B L g0 h) {r : List Int32} {y : Int} {k : Nat} (C : Cur B L h 1 (tNm k) r y) : q_X2_settingHere h (B + 497) = some (-1) := by
  obtain ⟨s, s1, s2, s3, s4, s5, s6⟩ := C
  rw [e2_setting I.r.1 I.2.1 I.2.2.2.1 s1 s2 (by omega) (by omega), if_neg]
  rintro ⟨_, z⟩
  rcases wdx_b (t := tL L) (s := s) (x := s + (tNm k).length) with e | ⟨n, n1, n2⟩
  · omega
  · exact Cur.mn s5 n1 ((wdx_iff n1).mpr n2)
/-- a name's number -/
def nmV (k : Nat) : Int := pk (tL (tNm k)) 0 2 6
theorem nmV_ne : ∀ i, i < 6 → ∀ k, k < 6 → i ≠ k → nmV i ≠ nmV k := by decide +kernel
theorem l_packed (I : LI B L g0 h) {r : List Int32} {y : Int} {k : Nat} (C : Cur B L h 1 (tNm k) r y) : q_X6_packedLetters h (B + 498) = some (nmV k) := by
  obtain ⟨s, s1, s2, s3, s4, s5, s6⟩ := C
  rw [e6_packed I.2.1 I.2.2.2.1 s1 s2 (by omega) (by omega)]
  unfold nmV pk
  refine congrArg some (zit_congr 6 (fun i hi p => ?_))
  have c : (tNm k).length = 2 := rfl
  rw [c]
  by_cases q : i < 2
  · rw [if_neg (by omega), if_neg (by omega), tL_drop, s5, tL_left (by omega), Nat.zero_add]
  · rw [if_pos (by omega), if_pos (by omega)]
theorem l_short (I : LI B L g0 h) {r : List Int32} {y : Int} {k : Nat} (C : Cur B L h 1 (tNm k) r y) : q_X6_isShortWord h (B + 498) = some 1 := by
  have h1000 := I.2.1.1
  obtain ⟨s, s1, s2, s3, s4, s5, s6⟩ := C
  have s3' : h.1 (B + 498) 4 = 1 := s3
  have c : (tNm k).length = 2 := rfl
  have w : zw (((s + (tNm k).length : Nat) : Int) - (s : Int)) = 2 := by rw [c, zw_id ⟨by omega, by omega⟩]; omega
  unfold q_X6_isShortWord
  rw [if_pos s3', s1, s2, w, if_neg (by decide)]
theorem l_name (I : LI B L g0 h) {r : List Int32} {y : Int} {k : Nat} (C : Cur B L h 1 (tNm k) r y) : q_X2_readName h (B + 497) = some (nmV k, h) := by
  unfold q_X2_readName
  rw [I.r.1, l_short I C, zbp_some, if_neg one0, l_notWord I C (by decide), zbp_some, if_pos rfl, l_notWord I C (by decide), zbp_some, if_pos rfl, l_notWord I C (by decide), zbp_some, if_pos rfl, l_noSetting I C, zbp_some, if_pos rfl, l_packed I C, zbp_some]
theorem l_newName (I : LI B L g0 h) {r u' r' : List Int32} {y y' : Int} {k κ' : Nat} (C : Cur B L h 1 (tNm k) r y) (hw : WF (vw h.1 (B + 500))) (hs : sNamed (vw h.1 (B + 500)) (nmV k) = -1) (hN : Nx r κ' u' r' y') : ∃ h', q_X2_readNewName h (B + 497) = some (nmV k, h') ∧ Kp B h h' ∧ Cur B L h' κ' u' r' y' := by
  obtain ⟨h', p1, p2, p3⟩ := l_accept I C hN
  refine ⟨h', ?_, p2, p3⟩
  unfold q_X2_readNewName
  rw [l_name I C, zbd_some, I.r.2.1, e4_named ⟨I.cly, hw⟩, zbp_some, hs, if_pos rfl, p1, zbd_some]
theorem l_stName (I : LI B L g0 h) {r u' r' : List Int32} {y y' x1 : Int} {k κ' : Nat} (C : Cur B L h 1 (tNm k) r y) (hw : WF (vw h.1 (B + 500))) (hs : sNamed (vw h.1 (B + 500)) (nmV k) = (k : Int)) (hx : (k : Int) ≠ x1) (hN : Nx r κ' u' r' y') : ∃ h', q_X2_readStationName h (B + 497) x1 = some ((k : Int), h') ∧ Kp B h h' ∧ Cur B L h' κ' u' r' y' := by
  obtain ⟨h', p1, p2, p3⟩ := l_accept I C hN
  refine ⟨h', ?_, p2, p3⟩
  unfold q_X2_readStationName
  rw [l_name I C, zbd_some, I.r.2.1, e4_named ⟨I.cly, hw⟩, zbp_some, hs, if_neg (by omega), if_neg hx, p1, zbd_some]
end CU
