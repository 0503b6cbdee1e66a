abbrev zS : Type := Nat → Nat → Nat → Int
/-- what a State at a holds: scalars, settings, stations, their errors, rains, calls -/
def vw (h : zH) (a : Nat) : zS := fun t k f => match t with
  | 0 => (match f with | 0 => h.1 a 0 | 1 => h.1 a 1 | 2 => h.1 a 3 | 3 => h.1 a 5 | _ => h.1 a 7)
  | 1 => h.1 (h.2 a 2) f
  | 2 => h.1 (h.2 (h.2 a 4) k) f
  | 3 => h.1 (h.2 (h.2 (h.2 a 4) k) 7) f
  | 4 => h.1 (h.2 (h.2 a 6) k) f
  | _ => h.1 (h.2 (h.2 a 8) k) f

def sNamed (v : zS) (nm : Int) : Nat → Nat → Int
  | 0, _ => -1
  | r + 1, i => if v 2 i 0 = nm then (i : Int) else sNamed v nm r (i + 1)

theorem c_X4_stationWithName (w : zW) (l : Launch) (h : zH) (a : Nat) (nm : Int) (hs : 0 ≤ h.1 a 3 ∧ h.1 a 3 ≤ 6) : zCt w l yX4_stationWithName cX4_stationWithName 3 (some .int) 0 0 [.inr (4, a), .inl nm] h (zFn (some (.inl (sNamed (vw h a) nm (h.1 a 3).toNat 0))) h) := by
  refine zCt.of (own := RX4) (loc := [some (.inr (4, a)), some (.inl nm), none]) (by decide) rfl (Nat.le_of_ble_eq_true rfl) (fun k v hk => ?_) ?_
  · exact zloc_ok 1 rfl hk
  intro p e s m args below meth c C Z1 Z2 ZA
  have loop : ∀ (rem : Nat) (i : Nat), ((i + rem : Nat) : Int) = h.1 a 3 → sNamed (vw h a) nm rem i = sNamed (vw h a) nm (h.1 a 3).toNat 0 → zV w p l e (zRm 0 0) s m args below meth c 3 0 0 (MQ below (zQ w (zFn (some (.inl (sNamed (vw h a) nm (h.1 a 3).toNat 0))) h)) args s 0 0 (zA w)) 2 [some (.inr (4, a)), some (.inl nm), some (.inl (i : Int))] [] h := by
    intro rem
    induction rem with
    | zero =>
      intro i  hi hF
      refine v_iload_n C dX4_stationWithName_2 rfl ?_
      refine v_aload_n C dX4_stationWithName_3 rfl ?_
      refine v_getI C dX4_stationWithName_4 fl4_46 rfl ?_
      refine v_icmp_ge C dX4_stationWithName_7 (tgt := 31) (by decide) (fun c7 => ?_) (fun c7 => ?_)
      · refine v_iconst C dX4_stationWithName_31 rfl ?_
        exact v_iret C Z1 Z2 dX4_stationWithName_32 ⟨by show _ = some (Sum.inl (sNamed (vw h a) nm (h.1 a 3).toNat 0)); rw [← hF]; try simp only [sNamed, vw]; try (first | rfl | (split <;> first | rfl | (exfalso; omega) | simp_all) | (simp_all; done)), rfl⟩
      · exact absurd c7 (by omega)
    | succ rem ih =>
      intro i  hi hF
      refine v_iload_n C dX4_stationWithName_2 rfl ?_
      refine v_aload_n C dX4_stationWithName_3 rfl ?_
      refine v_getI C dX4_stationWithName_4 fl4_46 rfl ?_
      refine v_icmp_ge C dX4_stationWithName_7 (tgt := 31) (by decide) (fun c7 => ?_) (fun c7 => ?_)
      · exact absurd c7 (by omega)
      · refine v_aload_n C dX4_stationWithName_10 rfl ?_
        refine v_getR C dX4_stationWithName_11 fl4_17 rfl ?_
        refine v_iload_n C dX4_stationWithName_14 rfl ?_
        first | refine v_aaldN C dX4_stationWithName_15 ⟨by decide, by decide, _, rfl⟩ rfl (by omega) ?_ | refine v_aald C dX4_stationWithName_15 ⟨by decide, by decide, _, rfl⟩ (by omega) (by omega) ?_
        refine v_getI C dX4_stationWithName_16 fl4_74 rfl ?_
        refine v_iload_n C dX4_stationWithName_19 rfl ?_
        refine v_icmp_ne C dX4_stationWithName_20 (tgt := 25) (by decide) (fun c20 => ?_) (fun c20 => ?_)
        · refine v_iincR C dX4_stationWithName_25 rfl (by decide) ⟨by omega, by omega⟩ ?_
          refine v_goto C dX4_stationWithName_28 (tgt := 2) (by decide) ?_
          exact ih (i + 1) (by omega) (by rw [← hF]; try simp only [sNamed, vw]; try (first | rfl | (split <;> first | rfl | (exfalso; omega) | simp_all) | (simp_all; done)))
        · refine v_iload_n C dX4_stationWithName_23 rfl ?_
          exact v_iret C Z1 Z2 dX4_stationWithName_24 ⟨by show _ = some (Sum.inl (sNamed (vw h a) nm (h.1 a 3).toNat 0)); rw [← hF]; try simp only [sNamed, vw]; try (first | rfl | (split <;> first | rfl | (exfalso; omega) | simp_all) | (simp_all; done)), rfl⟩
  refine v_iconst C dX4_stationWithName_0 rfl ?_
  refine v_istore_n C dX4_stationWithName_1 (by decide) ?_
  exact loop _ 0 (by omega) rfl

def sTrip (len dly : Int) : Int := if 0 < len then zw ((zw (zw (zw (2 * dly) + len) - 1)).tdiv len) else 0

theorem c_X4_tripOf (w : zW) (l : Launch) (h : zH) (a b : Nat) : zCt w l yX4_tripOf cX4_tripOf 3 (some .int) 0 0 [.inr (4, a), .inr (5, b)] h (zFn (some (.inl (sTrip (vw h a 1 0 0) (h.1 b 1)))) h) := by
  refine zCt.of (own := RX4) (loc := [some (.inr (4, a)), some (.inr (5, b)), none]) (by decide) rfl (Nat.le_of_ble_eq_true rfl) (fun k v hk => ?_) ?_
  · exact zloc_ok 1 rfl hk
  intro p e s m args below meth c C Z1 Z2 ZA
  refine v_aload_n C dX4_tripOf_0 rfl ?_
  refine v_getR C dX4_tripOf_1 fl4_9 rfl ?_
  refine v_iconst C dX4_tripOf_4 rfl ?_
  refine v_ialdN (j := 0) C dX4_tripOf_5 ⟨by decide, by decide, rfl⟩ rfl (by decide) ?_
  refine v_istore_n C dX4_tripOf_6 (by decide) ?_
  refine v_iload_n C dX4_tripOf_7 rfl ?_
  refine v_if_le C dX4_tripOf_8 (tgt := 26) (by decide) (fun c8 => ?_) (fun c8 => ?_)
  · refine v_iconst C dX4_tripOf_26 rfl ?_
    exact v_iret C Z1 Z2 dX4_tripOf_27 ⟨by simp only [sTrip, vw]; try (first | rfl | (split <;> first | rfl | (exfalso; omega) | simp_all) | (simp_all; done)), rfl⟩
  · refine v_iconst C dX4_tripOf_11 rfl ?_
    refine v_aload_n C dX4_tripOf_12 rfl ?_
    refine v_getI C dX4_tripOf_13 fl4_124 rfl ?_
    refine v_imul C dX4_tripOf_16 ?_
    refine v_iload_n C dX4_tripOf_17 rfl ?_
    refine v_iadd C dX4_tripOf_18 ?_
    refine v_iconst C dX4_tripOf_19 rfl ?_
    refine v_isub C dX4_tripOf_20 ?_
    refine v_iload_n C dX4_tripOf_21 rfl ?_
    refine v_idiv C dX4_tripOf_22 (by omega) ?_
    refine v_goto C dX4_tripOf_23 (tgt := 27) (by decide) ?_
    exact v_iret C Z1 Z2 dX4_tripOf_27 ⟨by simp only [sTrip, vw]; try (first | rfl | (split <;> first | rfl | (exfalso; omega) | simp_all) | (simp_all; done)), rfl⟩

def sFadeL (v : zS) (st fr : Int) : Nat → Nat → Int → Int
  | 0, _, S => S
  | r + 1, i, S => sFadeL v st fr r (i + 1) (if v 4 i 0 = st ∧ v 4 i 1 ≤ fr ∧ fr ≤ v 4 i 2 then zw (S + v 4 i 3) else S)
def sFade (v : zS) (st fr : Int) : Int := sFadeL v st fr (v 0 0 3).toNat 0 0

theorem c_X4_fadeIn (w : zW) (l : Launch) (h : zH) (a : Nat) (st fr : Int) (hr : 0 ≤ h.1 a 5 ∧ h.1 a 5 ≤ 8) : zCt w l yX4_fadeIn cX4_fadeIn 6 (some .int) 1 22 [.inr (4, a), .inl st, .inl fr] h (zFn (some (.inl (sFade (vw h a) st fr))) h) := by
  refine zCt.of (own := RX4) (loc := [some (.inr (4, a)), some (.inl st), some (.inl fr), none, none, none]) (by decide) rfl (Nat.le_of_ble_eq_true rfl) (fun k v hk => ?_) ?_
  · exact zloc_ok 3 rfl hk
  intro p e s m args below meth c C Z1 Z2 ZA
  have loop : ∀ (rem : Nat) (i : Nat) (S : Int) (u5 : Option zv), ((i + rem : Nat) : Int) = h.1 a 5 → sFadeL (vw h a) st fr rem i S = sFadeL (vw h a) st fr (h.1 a 5).toNat 0 0 → zV w p l e (zRm 1 22) s m args below meth c 6 0 0 (MQ below (zQ w (zFn (some (.inl (sFade (vw h a) st fr))) h)) args s 0 0 (zA w)) 5 [some (.inr (4, a)), some (.inl st), some (.inl fr), some (.inl S), some (.inl (i : Int)), u5] [] h := by
    intro rem
    induction rem with
    | zero =>
      intro i S u5 hi hF
      refine v_iload C dX4_fadeIn_5 rfl ?_
      refine v_aload_n C dX4_fadeIn_7 rfl ?_
      refine v_getI C dX4_fadeIn_8 fl4_49 rfl ?_
      refine v_icmp_ge C dX4_fadeIn_11 (tgt := 63) (by decide) (fun c11 => ?_) (fun c11 => ?_)
      · refine v_iload_n C dX4_fadeIn_63 rfl ?_
        exact v_iret C Z1 Z2 dX4_fadeIn_64 ⟨by show _ = some (Sum.inl (sFadeL (vw h a) st fr (h.1 a 5).toNat 0 0)); rw [← hF]; try simp only [sFadeL, vw]; try (first | rfl | (split <;> first | rfl | (exfalso; omega) | simp_all) | (simp_all; done)), rfl⟩
      · exact absurd c11 (by omega)
    | succ rem ih =>
      intro i S u5 hi hF
      refine v_iload C dX4_fadeIn_5 rfl ?_
      refine v_aload_n C dX4_fadeIn_7 rfl ?_
      refine v_getI C dX4_fadeIn_8 fl4_49 rfl ?_
      refine v_icmp_ge C dX4_fadeIn_11 (tgt := 63) (by decide) (fun c11 => ?_) (fun c11 => ?_)
      · exact absurd c11 (by omega)
      · refine v_aload_n C dX4_fadeIn_14 rfl ?_
        refine v_getR C dX4_fadeIn_15 fl4_23 rfl ?_
        refine v_iload C dX4_fadeIn_18 rfl ?_
        first | refine v_aaldN C dX4_fadeIn_20 ⟨by decide, by decide, _, rfl⟩ rfl (by omega) ?_ | refine v_aald C dX4_fadeIn_20 ⟨by decide, by decide, _, rfl⟩ (by omega) (by omega) ?_
        refine v_astore C dX4_fadeIn_21 (by decide) ?_
        refine v_aload C dX4_fadeIn_23 rfl ?_
        refine v_getI C dX4_fadeIn_25 fl4_81 rfl ?_
        refine v_iload_n C dX4_fadeIn_28 rfl ?_
        refine v_icmp_ne C dX4_fadeIn_29 (tgt := 57) (by decide) (fun c29 => ?_) (fun c29 => ?_)
        · refine v_iincR C dX4_fadeIn_57 rfl (by decide) ⟨by omega, by omega⟩ ?_
          refine v_goto C dX4_fadeIn_60 (tgt := 5) (by decide) ?_
          exact ih (i + 1) _ _ (by omega) (by rw [← hF]; try simp only [sFadeL, vw]; try (first | rfl | (split <;> first | rfl | (exfalso; omega) | simp_all) | (simp_all; done)))
        · refine v_iload_n C dX4_fadeIn_32 rfl ?_
          refine v_aload C dX4_fadeIn_33 rfl ?_
          refine v_getI C dX4_fadeIn_35 fl4_84 rfl ?_
          refine v_aload C dX4_fadeIn_38 rfl ?_
          refine v_getI C dX4_fadeIn_40 fl4_87 rfl ?_
          refine v_callNf C dX4_fadeIn_43 mn4_127 (c_X7_inRange w l _ _ _ _) rfl ⟨by decide, by decide⟩ ⟨by decide, by decide⟩ ⟨rfl, Nat.le_of_ble_eq_true rfl⟩ ?_
          refine v_ifb_eq C dX4_fadeIn_46 (tgt := 57) (by decide) (fun c46 => ?_) (fun c46 => ?_)
          · refine v_iincR C dX4_fadeIn_57 rfl (by decide) ⟨by omega, by omega⟩ ?_
            refine v_goto C dX4_fadeIn_60 (tgt := 5) (by decide) ?_
            exact ih (i + 1) _ _ (by omega) (by rw [← hF]; try simp only [sFadeL, vw]; try (first | rfl | (split <;> first | rfl | (exfalso; omega) | simp_all) | (simp_all; done)))
          · refine v_iload_n C dX4_fadeIn_49 rfl ?_
            refine v_aload C dX4_fadeIn_50 rfl ?_
            refine v_getI C dX4_fadeIn_52 fl4_90 rfl ?_
            refine v_iadd C dX4_fadeIn_55 ?_
            refine v_istore_n C dX4_fadeIn_56 (by decide) ?_
            refine v_iincR C dX4_fadeIn_57 rfl (by decide) ⟨by omega, by omega⟩ ?_
            refine v_goto C dX4_fadeIn_60 (tgt := 5) (by decide) ?_
            exact ih (i + 1) _ _ (by omega) (by rw [← hF]; try simp only [sFadeL, vw]; try (first | rfl | (split <;> first | rfl | (exfalso; omega) | simp_all) | (simp_all; done)))
  refine v_iconst C dX4_fadeIn_0 rfl ?_
  refine v_istore_n C dX4_fadeIn_1 (by decide) ?_
  refine v_iconst C dX4_fadeIn_2 rfl ?_
  refine v_istore C dX4_fadeIn_3 (by decide) ?_
  exact loop _ 0 _ _ (by omega) rfl

def sNextP (v : zS) (st bf fr : Int) : Int := zw (bf + zmax (zw (-v 1 0 5)) (zmin (v 1 0 5) (zw (zmin (zw (v 2 st.toNat 3 + sFade v st fr)) (v 2 st.toNat 4) - bf))))

theorem c_X4_nextPower (w : zW) (l : Launch) (h : zH) (a : Nat) (st bf fr : Int) (hs : 0 ≤ st ∧ st < 6) (hr : 0 ≤ h.1 a 5 ∧ h.1 a 5 ≤ 8) : zCt w l yX4_nextPower cX4_nextPower 6 (some .int) 2 72 [.inr (4, a), .inl st, .inl bf, .inl fr] h (zFn (some (.inl (sNextP (vw h a) st bf fr))) h) := by
  refine zCt.of (own := RX4) (loc := [some (.inr (4, a)), some (.inl st), some (.inl bf), some (.inl fr), none, none]) (by decide) rfl (Nat.le_of_ble_eq_true rfl) (fun k v hk => ?_) ?_
  · exact zloc_ok 2 rfl hk
  intro p e s m args below meth c C Z1 Z2 ZA
  refine v_aload_n C dX4_nextPower_0 rfl ?_
  refine v_getR C dX4_nextPower_1 fl4_9 rfl ?_
  refine v_iconst C dX4_nextPower_4 rfl ?_
  refine v_ialdN (j := 5) C dX4_nextPower_5 ⟨by decide, by decide, rfl⟩ rfl (by decide) ?_
  refine v_istore C dX4_nextPower_6 (by decide) ?_
  refine v_aload_n C dX4_nextPower_8 rfl ?_
  refine v_getR C dX4_nextPower_9 fl4_17 rfl ?_
  refine v_iload_n C dX4_nextPower_12 rfl ?_
  first | refine v_aaldN C dX4_nextPower_13 ⟨by decide, by decide, _, rfl⟩ rfl (by omega) ?_ | refine v_aald C dX4_nextPower_13 ⟨by decide, by decide, _, rfl⟩ (by omega) (by omega) ?_
  refine v_getI C dX4_nextPower_14 fl4_131 rfl ?_
  refine v_aload_n C dX4_nextPower_17 rfl ?_
  refine v_iload_n C dX4_nextPower_18 rfl ?_
  refine v_iload_n C dX4_nextPower_19 rfl ?_
  refine v_callVf C dX4_nextPower_20 mv4_134 (c_X4_fadeIn w l _ _ _ _ hr) rfl ⟨by decide, by decide⟩ ⟨by decide, by decide⟩ ⟨rfl, Nat.le_of_ble_eq_true rfl⟩ ?_
  refine v_iadd C dX4_nextPower_23 ?_
  refine v_aload_n C dX4_nextPower_24 rfl ?_
  refine v_getR C dX4_nextPower_25 fl4_17 rfl ?_
  refine v_iload_n C dX4_nextPower_28 rfl ?_
  first | refine v_aaldN C dX4_nextPower_29 ⟨by decide, by decide, _, rfl⟩ rfl (by omega) ?_ | refine v_aald C dX4_nextPower_29 ⟨by decide, by decide, _, rfl⟩ (by omega) (by omega) ?_
  refine v_getI C dX4_nextPower_30 fl4_138 rfl ?_
  refine v_mmin C dX4_nextPower_33 (zmem 787 (by decide +kernel)) ⟨by decide, Nat.le_of_ble_eq_true rfl⟩ ⟨by decide, by decide⟩ ?_
  refine v_istore C dX4_nextPower_36 (by decide) ?_
  refine v_iload_n C dX4_nextPower_38 rfl ?_
  refine v_iload C dX4_nextPower_39 rfl ?_
  refine v_ineg C dX4_nextPower_41 ?_
  refine v_iload C dX4_nextPower_42 rfl ?_
  refine v_iload C dX4_nextPower_44 rfl ?_
  refine v_iload_n C dX4_nextPower_46 rfl ?_
  refine v_isub C dX4_nextPower_47 ?_
  refine v_mmin C dX4_nextPower_48 (zmem 787 (by decide +kernel)) ⟨by decide, Nat.le_of_ble_eq_true rfl⟩ ⟨by decide, by decide⟩ ?_
  refine v_mmax C dX4_nextPower_51 (zmem 605 (by decide +kernel)) ⟨by decide, Nat.le_of_ble_eq_true rfl⟩ ⟨by decide, by decide⟩ ?_
  refine v_iadd C dX4_nextPower_54 ?_
  exact v_iret C Z1 Z2 dX4_nextPower_55 ⟨rfl, rfl⟩

def sMargW (v : zS) (sd rc pw fr : Int) : Int := zw (zw (zw (pw - sFade v sd fr) - sFade v rc fr) - v 1 0 4)

theorem c_X4_marginWith (w : zW) (l : Launch) (h : zH) (a b : Nat) (pw fr : Int) (hr : 0 ≤ h.1 a 5 ∧ h.1 a 5 ≤ 8) : zCt w l yX4_marginWith cX4_marginWith 4 (some .int) 2 47 [.inr (4, a), .inr (0, b), .inl pw, .inl fr] h (zFn (some (.inl (sMargW (vw h a) (h.1 b 0) (h.1 b 1) pw fr))) h) := by
  refine zCt.of (own := RX4) (loc := [some (.inr (4, a)), some (.inr (0, b)), some (.inl pw), some (.inl fr)]) (by decide) rfl (Nat.le_of_ble_eq_true rfl) (fun k v hk => ?_) ?_
  · exact zloc_ok 0 rfl hk
  intro p e s m args below meth c C Z1 Z2 ZA
  refine v_iload_n C dX4_marginWith_0 rfl ?_
  refine v_aload_n C dX4_marginWith_1 rfl ?_
  refine v_aload_n C dX4_marginWith_2 rfl ?_
  refine v_getI C dX4_marginWith_3 fl4_93 rfl ?_
  refine v_iload_n C dX4_marginWith_6 rfl ?_
  refine v_callVf C dX4_marginWith_7 mv4_134 (c_X4_fadeIn w l _ _ _ _ hr) rfl ⟨by decide, by decide⟩ ⟨by decide, by decide⟩ ⟨rfl, Nat.le_of_ble_eq_true rfl⟩ ?_
  refine v_isub C dX4_marginWith_10 ?_
  refine v_aload_n C dX4_marginWith_11 rfl ?_
  refine v_aload_n C dX4_marginWith_12 rfl ?_
  refine v_getI C dX4_marginWith_13 fl4_96 rfl ?_
  refine v_iload_n C dX4_marginWith_16 rfl ?_
  refine v_callVf C dX4_marginWith_17 mv4_134 (c_X4_fadeIn w l _ _ _ _ hr) rfl ⟨by decide, by decide⟩ ⟨by decide, by decide⟩ ⟨rfl, Nat.le_of_ble_eq_true rfl⟩ ?_
  refine v_isub C dX4_marginWith_20 ?_
  refine v_aload_n C dX4_marginWith_21 rfl ?_
  refine v_getR C dX4_marginWith_22 fl4_9 rfl ?_
  refine v_iconst C dX4_marginWith_25 rfl ?_
  refine v_ialdN (j := 4) C dX4_marginWith_26 ⟨by decide, by decide, rfl⟩ rfl (by decide) ?_
  refine v_isub C dX4_marginWith_27 ?_
  exact v_iret C Z1 Z2 dX4_marginWith_28 ⟨rfl, rfl⟩

def sMarg (v : zS) (sd rc : Int) : Int := sMargW v sd rc (v 2 sd.toNat 5) (v 0 0 0)

theorem c_X4_presentMargin (w : zW) (l : Launch) (h : zH) (a b : Nat) (hs : 0 ≤ h.1 b 0 ∧ h.1 b 0 < 6) (hr : 0 ≤ h.1 a 5 ∧ h.1 a 5 ≤ 8) : zCt w l yX4_presentMargin cX4_presentMargin 2 (some .int) 3 70 [.inr (4, a), .inr (0, b)] h (zFn (some (.inl (sMarg (vw h a) (h.1 b 0) (h.1 b 1)))) h) := by
  refine zCt.of (own := RX4) (loc := [some (.inr (4, a)), some (.inr (0, b))]) (by decide) rfl (Nat.le_of_ble_eq_true rfl) (fun k v hk => ?_) ?_
  · exact zloc_ok 0 rfl hk
  intro p e s m args below meth c C Z1 Z2 ZA
  refine v_aload_n C dX4_presentMargin_0 rfl ?_
  refine v_aload_n C dX4_presentMargin_1 rfl ?_
  refine v_aload_n C dX4_presentMargin_2 rfl ?_
  refine v_getR C dX4_presentMargin_3 fl4_17 rfl ?_
  refine v_aload_n C dX4_presentMargin_6 rfl ?_
  refine v_getI C dX4_presentMargin_7 fl4_93 rfl ?_
  first | refine v_aaldN C dX4_presentMargin_10 ⟨by decide, by decide, _, rfl⟩ rfl (by omega) ?_ | refine v_aald C dX4_presentMargin_10 ⟨by decide, by decide, _, rfl⟩ (by omega) (by omega) ?_
  refine v_getI C dX4_presentMargin_11 fl4_149 rfl ?_
  refine v_aload_n C dX4_presentMargin_14 rfl ?_
  refine v_getI C dX4_presentMargin_15 fl4_39 rfl ?_
  refine v_callVf C dX4_presentMargin_18 mv4_152 (c_X4_marginWith w l _ _ _ _ _ hr) rfl ⟨by decide, by decide⟩ ⟨by decide, by decide⟩ ⟨rfl, Nat.le_of_ble_eq_true rfl⟩ ?_
  exact v_iret C Z1 Z2 dX4_presentMargin_21 ⟨rfl, rfl⟩

abbrev sIn (S k : Int) : Prop := zand (zshr S k) 1 ≠ 0

theorem c_X4_isIn (w : zW) (l : Launch) (h : zH) (S k : Int) : zCt w l yX4_isIn cX4_isIn 2 (some .boolean) 0 0 [.inl S, .inl k] h (zFn (some (.inl (bI (sIn S k)))) h) := by
  refine zCt.of (own := RX4) (loc := [some (.inl S), some (.inl k)]) (by decide) rfl (Nat.le_of_ble_eq_true rfl) (fun k v hk => ?_) ?_
  · exact zloc_ok 0 rfl hk
  intro p e s m args below meth c C Z1 Z2 ZA
  refine v_iload_n C dX4_isIn_0 rfl ?_
  refine v_iload_n C dX4_isIn_1 rfl ?_
  refine v_ishr C dX4_isIn_2 ?_
  refine v_iconst C dX4_isIn_3 rfl ?_
  refine v_iand C dX4_isIn_4 ?_
  refine v_if_eq C dX4_isIn_5 (tgt := 12) (by decide) (fun c5 => ?_) (fun c5 => ?_)
  · refine v_iconst C dX4_isIn_12 rfl ?_
    exact v_zret C Z1 Z2 (by decide) dX4_isIn_13 ⟨by first | rw [bI_pos (show sIn S k from c5)] | rw [bI_neg (fun q => q c5)], rfl⟩
  · refine v_iconst C dX4_isIn_8 rfl ?_
    refine v_goto C dX4_isIn_9 (tgt := 13) (by decide) ?_
    exact v_zret C Z1 Z2 (by decide) dX4_isIn_13 ⟨by first | rw [bI_pos (show sIn S k from c5)] | rw [bI_neg (fun q => q c5)], rfl⟩

