/-! The law's own body, behind its exchange. -/
theorem l_fade {w : zW} {h : zH} {v : Nat → Nat → Int} (hw : WF v) (h5 : v 0 5 = ((mRns w : Nat) : Int)) (hr : ∀ r, r < mRns w → ∀ j, j < 4 → v (17 + r) j = ((mRn w r j : Nat) : Int)) (s f : Int) : q_L_fade w h s f = some (sFade v s f) := by
  have hR := (l_rains (w := w) (h := h)).2
  have hn : nRn v = mRns w := by unfold nRn; omega
  unfold q_L_fade
  refine zloopQ (L := fun n a i => q_L_fade_L5 w h s f (fun x14 _ => some x14) n a i) _ (fun i (a : Int) => 0 ≤ a ∧ a ≤ 400 * (i : Int)) (by omega) ⟨by omega, by omega⟩ (fun a i hi ha => fade_pre hw s f a i hi ha) (fun n a i hi ha => ?_) (fun n a ha => ?_)
  · have hb := (hw.2.2.2.2.2.2.2.1 i (by omega)).2.2
    have e := (l_rain (w := w) (h := h) (r := i) (by omega)).1
    have e0 : q_L_rain w h (i : Int) 0 = some (v (17 + i) 0) := (e 0 (by decide)).trans (congrArg some (hr i (by omega) 0 (by decide)).symm)
    have e1 : q_L_rain w h (i : Int) 1 = some (v (17 + i) 1) := (e 1 (by decide)).trans (congrArg some (hr i (by omega) 1 (by decide)).symm)
    have e2 : q_L_rain w h (i : Int) 2 = some (v (17 + i) 2) := (e 2 (by decide)).trans (congrArg some (hr i (by omega) 2 (by decide)).symm)
    have e3 : q_L_rain w h (i : Int) 3 = some (v (17 + i) 3) := (e 3 (by decide)).trans (congrArg some (hr i (by omega) 3 (by decide)).symm)
    have ex : zw (a + v (17 + i) 3) = a + v (17 + i) 3 := zw_id ⟨by omega, by omega⟩
    have ea : zw (a + 0) = a := zw_0 ⟨by omega, by omega⟩
    show q_L_fade_L5 w h s f _ (n + 1) a (i : Int) = _
    rw [q_L_fade_L5, l_rains.1, zbp_some, if_neg (by omega), e0, zbp_some]
    simp only [zlet_b]
    rw [zw_s (by omega), ea]
    by_cases c0 : v (17 + i) 0 = s
    · rw [if_pos c0, e1, zbp_some]
      by_cases c1 : f < v (17 + i) 1
      · rw [if_pos c1, if_neg (by omega)]
      · rw [if_neg c1, e2, zbp_some]
        by_cases c2 : v (17 + i) 2 < f
        · rw [if_pos c2, if_neg (by omega)]
        · rw [if_neg c2, e3, zbp_some, ex, if_pos ⟨c0, by omega, by omega⟩]
    · rw [if_neg c0, if_neg (fun q => c0 q.1)]
  · show q_L_fade_L5 w h s f _ (n + 1) a (nRn v : Int) = _
    rw [q_L_fade_L5, l_rains.1, zbp_some, if_pos (by omega)]
section BO
variable {w : zW} {p : Program} {l : Launch} {e : Env} {R : Room} {s : State} {m : MethodId} {args : Array Value} {below : List Frame} {meth : Method} {c : Code} {cells slots : Nat} {Q : State → Prop} {B : Nat} {h : zH}
/-- what is asked at the end -/
theorem b_final (C : zC w p s m args c 4 cL_law RL) (hR : 12 ≤ R.frames ∧ 400 ≤ R.locals) (hcs : cells ≤ R.cells ∧ slots ≤ R.slots) (hI : zInv B h) {F : Int} (X : Ex2 (nC w) (nS w) F (vw h.1 (B + 1))) {v2 v3 : Option zv}
    (kk : zV w p l e R s m args below meth c 4 cells slots Q 219 [some (.inr (30, zwS w 30)), some (.inr (7, B)), v2, v3] [.inl 1] h) : zV w p l e R s m args below meth c 4 cells slots Q 178 [some (.inr (30, zwS w 30)), some (.inr (7, B)), v2, v3] [] h := by
  obtain ⟨hR1, hR2⟩ := hR
  refine v_aload_n C dL_law_178 rfl ?_
  refine v_callSf C dL_law_179 msL_236 (cq_L_areBursts w l h B _ (ab_all hI X.1)) (rest := []) rfl ⟨by omega, by omega⟩ hcs ⟨rfl, Nat.le_of_ble_eq_true rfl⟩ ?_
  refine v_if_eq C dL_law_182 (tgt := 218) (by decide) (fun z => absurd z one0) (fun _ => ?_)
  refine v_aload_n C dL_law_185 rfl ?_
  refine v_callSf C dL_law_186 msL_240 (cq_L_isQueue w l h B _ (iq_all hI)) (rest := []) rfl ⟨by omega, by omega⟩ hcs ⟨rfl, Nat.le_of_ble_eq_true rfl⟩ ?_
  refine v_if_eq C dL_law_189 (tgt := 218) (by decide) (fun z => absurd z one0) (fun _ => ?_)
  refine v_aload_n C dL_law_192 rfl ?_
  refine v_callVf C dL_law_193 mvL_206 (cq_X7_carrierCount w l h B _ (x_carriers hI)) (rest := []) rfl ⟨by omega, by omega⟩ hcs ⟨rfl, Nat.le_of_ble_eq_true rfl⟩ ?_
  refine v_aload_n C dL_law_196 rfl ?_
  refine v_callSf C dL_law_197 msL_67 (cq_L_carriers w l h _ l_carriers) (rest := [.inl (vw h.1 (B + 1) 0 1)]) rfl ⟨by omega, by omega⟩ hcs ⟨rfl, Nat.le_of_ble_eq_true rfl⟩ ?_
  refine v_icmp_ne C dL_law_200 (tgt := 218) (by decide) (fun z => absurd X.2.1 z) (fun _ => ?_)
  refine v_aload_n C dL_law_203 rfl ?_
  refine v_callVf C dL_law_204 mvL_247 (cq_X7_stationCount w l h B _ (x_stations hI)) (rest := []) rfl ⟨by omega, by omega⟩ hcs ⟨rfl, Nat.le_of_ble_eq_true rfl⟩ ?_
  refine v_aload_n C dL_law_207 rfl ?_
  refine v_callSf C dL_law_208 msL_52 (cq_L_stations w l h _ l_stations) (rest := [.inl (vw h.1 (B + 1) 0 3)]) rfl ⟨by omega, by omega⟩ hcs ⟨rfl, Nat.le_of_ble_eq_true rfl⟩ ?_
  refine v_icmp_ne C dL_law_211 (tgt := 218) (by decide) (fun z => absurd X.2.2.1 z) (fun _ => ?_)
  refine v_iconst C dL_law_214 (by decide) ?_
  exact v_goto C dL_law_215 (tgt := 219) (by decide) kk
/-- the ten changes -/
theorem b_steps (C : zC w p s m args c 4 cL_law RL) (hR : 12 ≤ R.frames ∧ 400 ≤ R.locals) (hcs : cells ≤ R.cells ∧ slots ≤ R.slots) {v3 : Option zv}
    (kk : ∀ (h1 : zH) (k : Int), zV w p l e R s m args below meth c 4 cells slots Q 219 [some (.inr (30, zwS w 30)), some (.inr (7, B)), some (.inl k), v3] [.inl 1] h1) :
    ∀ (d k : Nat) (h : zH), k + d = 10 → zInv B h → Ex2 (nC w) (nS w) (6 * (k : Int)) (vw h.1 (B + 1)) → zV w p l e R s m args below meth c 4 cells slots Q 137 [some (.inr (30, zwS w 30)), some (.inr (7, B)), some (.inl (k : Int)), v3] [] h := by
  intro d
  induction d with
  | zero =>
    intro k h hk hI X
    refine v_iload_n C dL_law_137 rfl ?_
    refine v_bipush C dL_law_138 (by decide) rfl ?_
    refine v_icmp_ge C dL_law_140 (tgt := 178) (by decide) (fun _ => ?_) (fun z => by exfalso; omega)
    exact b_final C hR hcs hI X (kk h _)
  | succ d ih =>
    intro k h hk hI X
    obtain ⟨hR1, hR2⟩ := id hR
    refine v_iload_n C dL_law_137 rfl ?_
    refine v_bipush C dL_law_138 (by decide) rfl ?_
    refine v_icmp_ge C dL_law_140 (tgt := 178) (by decide) (fun z => by exfalso; omega) (fun _ => ?_)
    refine v_aload_n C dL_law_143 rfl ?_
    refine v_callSf C dL_law_144 msL_236 (cq_L_areBursts w l h B _ (ab_all hI X.1)) (rest := []) rfl ⟨by omega, by omega⟩ hcs ⟨rfl, Nat.le_of_ble_eq_true rfl⟩ ?_
    refine v_if_eq C dL_law_147 (tgt := 157) (by decide) (fun z => absurd z one0) (fun _ => ?_)
    refine v_aload_n C dL_law_150 rfl ?_
    refine v_callSf C dL_law_151 msL_240 (cq_L_isQueue w l h B _ (iq_all hI)) (rest := []) rfl ⟨by omega, by omega⟩ hcs ⟨rfl, Nat.le_of_ble_eq_true rfl⟩ ?_
    refine v_if_ne C dL_law_154 (tgt := 159) (by decide) (fun _ => ?_) (fun z => absurd z one0)
    refine v_aload_n C dL_law_159 rfl ?_
    refine v_aload_n C dL_law_160 rfl ?_
    refine v_aload_n C dL_law_161 rfl ?_
    refine v_bipush C dL_law_162 (by decide) rfl ?_
    refine v_iload_n C dL_law_164 rfl ?_
    refine v_iadd C dL_law_165 ?_
    refine v_callSf C dL_law_166 msL_37 (cq_L_cell w l h _ _ (l_cellK (j := 14) (k := k) (by decide) (by omega))) (rest := [.inr (30, zwS w 30), .inr (7, B)]) rfl ⟨by omega, by omega⟩ hcs ⟨rfl, Nat.le_of_ble_eq_true rfl⟩ ?_
    obtain ⟨h1, p1, p2, p3⟩ := y_changes (w := w) hI X rfl ⟨by omega, by omega⟩ (zX w (14 + k))
    refine v_callSv C dL_law_169 msL_243 (cq_L_changes w l h B _ _ _ p1) (rest := []) rfl ⟨by omega, by omega⟩ hcs ⟨rfl, Nat.le_of_ble_eq_true rfl⟩ ?_
    refine v_iincR C dL_law_172 rfl (by decide) ⟨by omega, by omega⟩ ?_
    refine v_goto C dL_law_175 (tgt := 137) (by decide) ?_
    have e : (k : Int) + 1 = ((k + 1 : Nat) : Int) := by omega
    have e6 : 6 * (k : Int) + 6 = 6 * ((k + 1 : Nat) : Int) := by omega
    rw [e6] at p3
    rw [e]
    exact ih (k + 1) h1 (by omega) p2 p3
/-- the calls, as they were told -/
theorem b_calls (C : zC w p s m args c 4 cL_law RL) (hR : 12 ≤ R.frames ∧ 400 ≤ R.locals) (hcs : cells ≤ R.cells ∧ slots ≤ R.slots) {v3 : Option zv} (hI : zInv B h) (h7 : vw h.1 (B + 1) 0 7 = ((mCls w : Nat) : Int)) (hc : ∀ i, i < mCls w → vw h.1 (B + 1) (25 + i) 0 = ((mCl w i 0 : Nat) : Int) ∧ vw h.1 (B + 1) (25 + i) 1 = ((mCl w i 1 : Nat) : Int) ∧ vw h.1 (B + 1) (25 + i) 2 = ((mCl w i 2 : Nat) : Int) ∧ vw h.1 (B + 1) (25 + i) 3 = 20 + ((mCl w i 3 : Nat) : Int))
    (kk : ∀ k : Int, zV w p l e R s m args below meth c 4 cells slots Q 135 [some (.inr (30, zwS w 30)), some (.inr (7, B)), some (.inl k), v3] [] h) :
    ∀ (d k : Nat), k + d = mCls w → zV w p l e R s m args below meth c 4 cells slots Q 60 [some (.inr (30, zwS w 30)), some (.inr (7, B)), some (.inl (k : Int)), v3] [] h := by
  have hm := (l_calls (w := w) (h := h)).2
  obtain ⟨hR1, hR2⟩ := hR
  intro d
  induction d with
  | zero =>
    intro k hk
    refine v_iload_n C dL_law_60 rfl ?_
    refine v_aload_n C dL_law_61 rfl ?_
    refine v_callSf C dL_law_62 msL_116 (cq_L_calls w l h _ l_calls.1) (rest := [.inl (k : Int)]) rfl ⟨by omega, by omega⟩ hcs ⟨rfl, Nat.le_of_ble_eq_true rfl⟩ ?_
    exact v_icmp_ge C dL_law_65 (tgt := 135) (by decide) (fun _ => kk _) (fun z => by exfalso; omega)
  | succ d ih =>
    intro k hk
    obtain ⟨c0, c1, c2, c3⟩ := hc k (by omega)
    have hkn : (k : Int) < vw h.1 (B + 1) 0 7 := by omega
    obtain ⟨q, qb⟩ := l_call (w := w) (h := h) (k := k) (by omega)
    have q0 : q_L_call w h (k : Int) 0 = some (vw h.1 (B + 1) (25 + k) 0) := (q 0 (by decide)).trans (congrArg some c0.symm)
    have q1 : q_L_call w h (k : Int) 1 = some (vw h.1 (B + 1) (25 + k) 1) := (q 1 (by decide)).trans (congrArg some c1.symm)
    have q2 : q_L_call w h (k : Int) 2 = some (vw h.1 (B + 1) (25 + k) 2) := (q 2 (by decide)).trans (congrArg some c2.symm)
    have q3 : q_L_call w h (k : Int) 3 = some ((mCl w k 3 : Nat) : Int) := q 3 (by decide)
    have w3 : zw (20 + ((mCl w k 3 : Nat) : Int)) = vw h.1 (B + 1) (25 + k) 3 := by rw [c3, zw_id ⟨by omega, by omega⟩]
    refine v_iload_n C dL_law_60 rfl ?_
    refine v_aload_n C dL_law_61 rfl ?_
    refine v_callSf C dL_law_62 msL_116 (cq_L_calls w l h _ l_calls.1) (rest := [.inl (k : Int)]) rfl ⟨by omega, by omega⟩ hcs ⟨rfl, Nat.le_of_ble_eq_true rfl⟩ ?_
    refine v_icmp_ge C dL_law_65 (tgt := 135) (by decide) (fun z => by exfalso; omega) (fun _ => ?_)
    refine v_aload_n C dL_law_68 rfl ?_
    refine v_iload_n C dL_law_69 rfl ?_
    refine v_callVf C dL_law_70 mvL_172 (cq_X7_senderOf w l h B _ _ (x_sender hI hkn)) (rest := []) rfl ⟨by omega, by omega⟩ hcs ⟨rfl, Nat.le_of_ble_eq_true rfl⟩ ?_
    refine v_aload_n C dL_law_73 rfl ?_
    refine v_iload_n C dL_law_74 rfl ?_
    refine v_iconst C dL_law_75 (by decide) ?_
    refine v_callSf C dL_law_76 msL_121 (cq_L_call w l h _ _ _ q0) (rest := [.inl (vw h.1 (B + 1) (25 + k) 0)]) rfl ⟨by omega, by omega⟩ hcs ⟨rfl, Nat.le_of_ble_eq_true rfl⟩ ?_
    refine v_icmp_ne C dL_law_79 (tgt := 127) (by decide) (fun z => absurd rfl z) (fun _ => ?_)
    refine v_aload_n C dL_law_82 rfl ?_
    refine v_iload_n C dL_law_83 rfl ?_
    refine v_callVf C dL_law_84 mvL_175 (cq_X7_receiverOf w l h B _ _ (x_recv hI hkn)) (rest := []) rfl ⟨by omega, by omega⟩ hcs ⟨rfl, Nat.le_of_ble_eq_true rfl⟩ ?_
    refine v_aload_n C dL_law_87 rfl ?_
    refine v_iload_n C dL_law_88 rfl ?_
    refine v_iconst C dL_law_89 (by decide) ?_
    refine v_callSf C dL_law_90 msL_121 (cq_L_call w l h _ _ _ q1) (rest := [.inl (vw h.1 (B + 1) (25 + k) 1)]) rfl ⟨by omega, by omega⟩ hcs ⟨rfl, Nat.le_of_ble_eq_true rfl⟩ ?_
    refine v_icmp_ne C dL_law_93 (tgt := 127) (by decide) (fun z => absurd rfl z) (fun _ => ?_)
    refine v_aload_n C dL_law_96 rfl ?_
    refine v_iload_n C dL_law_97 rfl ?_
    refine v_callVf C dL_law_98 mvL_224 (cq_X7_priorityOf w l h B _ _ (x_prio hI hkn)) (rest := []) rfl ⟨by omega, by omega⟩ hcs ⟨rfl, Nat.le_of_ble_eq_true rfl⟩ ?_
    refine v_aload_n C dL_law_101 rfl ?_
    refine v_iload_n C dL_law_102 rfl ?_
    refine v_iconst C dL_law_103 (by decide) ?_
    refine v_callSf C dL_law_104 msL_121 (cq_L_call w l h _ _ _ q2) (rest := [.inl (vw h.1 (B + 1) (25 + k) 2)]) rfl ⟨by omega, by omega⟩ hcs ⟨rfl, Nat.le_of_ble_eq_true rfl⟩ ?_
    refine v_icmp_ne C dL_law_107 (tgt := 127) (by decide) (fun z => absurd rfl z) (fun _ => ?_)
    refine v_aload_n C dL_law_110 rfl ?_
    refine v_iload_n C dL_law_111 rfl ?_
    refine v_callVf C dL_law_112 mvL_169 (cq_X7_burstOf w l h B _ _ (x_burst hI hkn)) (rest := []) rfl ⟨by omega, by omega⟩ hcs ⟨rfl, Nat.le_of_ble_eq_true rfl⟩ ?_
    refine v_bipush C dL_law_115 (by decide) rfl ?_
    refine v_aload_n C dL_law_117 rfl ?_
    refine v_iload_n C dL_law_118 rfl ?_
    refine v_iconst C dL_law_119 (by decide) ?_
    refine v_callSf C dL_law_120 msL_121 (cq_L_call w l h _ _ _ q3) (rest := [.inl 20, .inl (vw h.1 (B + 1) (25 + k) 3)]) rfl ⟨by omega, by omega⟩ hcs ⟨rfl, Nat.le_of_ble_eq_true rfl⟩ ?_
    refine v_iadd C dL_law_123 ?_
    rw [w3]
    refine v_icmp_eq C dL_law_124 (tgt := 129) (by decide) (fun _ => ?_) (fun z => absurd rfl z)
    refine v_iincR C dL_law_129 rfl (by decide) ⟨by omega, by omega⟩ ?_
    refine v_goto C dL_law_132 (tgt := 60) (by decide) ?_
    have e9 : (k : Int) + 1 = ((k + 1 : Nat) : Int) := by omega
    rw [e9]
    exact ih (k + 1) (by omega)
/-- a station's fades, as they were told -/
theorem b_frames (C : zC w p s m args c 4 cL_law RL) (hR : 12 ≤ R.frames ∧ 400 ≤ R.locals) (hcs : cells ≤ R.cells ∧ slots ≤ R.slots) (hI : zInv B h) (h5 : vw h.1 (B + 1) 0 5 = ((mRns w : Nat) : Int)) (hr : ∀ r, r < mRns w → ∀ j, j < 4 → vw h.1 (B + 1) (17 + r) j = ((mRn w r j : Nat) : Int)) {k : Nat} (hk : (k : Int) < vw h.1 (B + 1) 0 3)
    (kk : ∀ f : Int, zV w p l e R s m args below meth c 4 cells slots Q 52 [some (.inr (30, zwS w 30)), some (.inr (7, B)), some (.inl (k : Int)), some (.inl f)] [] h) :
    ∀ (d f : Nat), f + d = 30 → zV w p l e R s m args below meth c 4 cells slots Q 23 [some (.inr (30, zwS w 30)), some (.inr (7, B)), some (.inl (k : Int)), some (.inl (f : Int))] [] h := by
  obtain ⟨hR1, hR2⟩ := hR
  intro d
  induction d with
  | zero =>
    intro f hf
    refine v_iload_n C dL_law_23 rfl ?_
    refine v_bipush C dL_law_24 (by decide) rfl ?_
    exact v_icmp_ge C dL_law_26 (tgt := 52) (by decide) (fun _ => kk _) (fun z => by exfalso; omega)
  | succ d ih =>
    intro f hf
    have ef := x_fade hI hk (f : Int)
    rw [if_pos ⟨by omega, by omega⟩] at ef
    have el := l_fade (w := w) (h := h) hI.wf h5 hr (k : Int) (f : Int)
    refine v_iload_n C dL_law_23 rfl ?_
    refine v_bipush C dL_law_24 (by decide) rfl ?_
    refine v_icmp_ge C dL_law_26 (tgt := 52) (by decide) (fun z => by exfalso; omega) (fun _ => ?_)
    refine v_aload_n C dL_law_29 rfl ?_
    refine v_iload_n C dL_law_30 rfl ?_
    refine v_iload_n C dL_law_31 rfl ?_
    refine v_callVf C dL_law_32 mvL_231 (cq_X7_fade w l h B _ _ _ ef) (rest := []) rfl ⟨by omega, by omega⟩ hcs ⟨rfl, Nat.le_of_ble_eq_true rfl⟩ ?_
    refine v_aload_n C dL_law_35 rfl ?_
    refine v_iload_n C dL_law_36 rfl ?_
    refine v_iload_n C dL_law_37 rfl ?_
    refine v_callSf C dL_law_38 msL_234 (cq_L_fade w l h _ _ _ el) (rest := [.inl (sFade (vw h.1 (B + 1)) (k : Int) (f : Int))]) rfl ⟨by omega, by omega⟩ hcs ⟨rfl, Nat.le_of_ble_eq_true rfl⟩ ?_
    refine v_icmp_eq C dL_law_41 (tgt := 46) (by decide) (fun _ => ?_) (fun z => absurd rfl z)
    refine v_iincR C dL_law_46 rfl (by decide) ⟨by omega, by omega⟩ ?_
    refine v_goto C dL_law_49 (tgt := 23) (by decide) ?_
    have e9 : (f : Int) + 1 = ((f + 1 : Nat) : Int) := by omega
    rw [e9]
    exact ih (f + 1) (by omega)
theorem b_fades (C : zC w p s m args c 4 cL_law RL) (hR : 12 ≤ R.frames ∧ 400 ≤ R.locals) (hcs : cells ≤ R.cells ∧ slots ≤ R.slots) (hI : zInv B h) (h3 : vw h.1 (B + 1) 0 3 = ((mS w : Nat) : Int)) (h5 : vw h.1 (B + 1) 0 5 = ((mRns w : Nat) : Int)) (hr : ∀ r, r < mRns w → ∀ j, j < 4 → vw h.1 (B + 1) (17 + r) j = ((mRn w r j : Nat) : Int))
    (kk : ∀ (k : Int) (v3 : Option zv), zV w p l e R s m args below meth c 4 cells slots Q 58 [some (.inr (30, zwS w 30)), some (.inr (7, B)), some (.inl k), v3] [] h) :
    ∀ (d k : Nat) (v3 : Option zv), k + d = mS w → zV w p l e R s m args below meth c 4 cells slots Q 13 [some (.inr (30, zwS w 30)), some (.inr (7, B)), some (.inl (k : Int)), v3] [] h := by
  have hs := mS_b (w := w)
  obtain ⟨hR1, hR2⟩ := id hR
  intro d
  induction d with
  | zero =>
    intro k v3 hk
    refine v_iload_n C dL_law_13 rfl ?_
    refine v_aload_n C dL_law_14 rfl ?_
    refine v_callSf C dL_law_15 msL_52 (cq_L_stations w l h _ l_stations) (rest := [.inl (k : Int)]) rfl ⟨by omega, by omega⟩ hcs ⟨rfl, Nat.le_of_ble_eq_true rfl⟩ ?_
    exact v_icmp_ge C dL_law_18 (tgt := 58) (by decide) (fun _ => kk _ _) (fun z => by exfalso; omega)
  | succ d ih =>
    intro k v3 hk
    refine v_iload_n C dL_law_13 rfl ?_
    refine v_aload_n C dL_law_14 rfl ?_
    refine v_callSf C dL_law_15 msL_52 (cq_L_stations w l h _ l_stations) (rest := [.inl (k : Int)]) rfl ⟨by omega, by omega⟩ hcs ⟨rfl, Nat.le_of_ble_eq_true rfl⟩ ?_
    refine v_icmp_ge C dL_law_18 (tgt := 58) (by decide) (fun z => by exfalso; omega) (fun _ => ?_)
    refine v_iconst C dL_law_21 (by decide) ?_
    refine v_istore_n C dL_law_22 (by decide) ?_
    refine b_frames C hR hcs hI h5 hr (k := k) (by omega) (fun f => ?_) 30 0 rfl
    refine v_iincR C dL_law_52 rfl (by decide) ⟨by omega, by omega⟩ ?_
    refine v_goto C dL_law_55 (tgt := 13) (by decide) ?_
    have e9 : (k : Int) + 1 = ((k + 1 : Nat) : Int) := by omega
    rw [e9]
    exact ih (k + 1) _ (by omega)
/-- from behind the exchange to the end -/
theorem b_all (C : zC w p s m args c 4 cL_law RL) (hR : 12 ≤ R.frames ∧ 400 ≤ R.locals) (hcs : cells ≤ R.cells ∧ slots ≤ R.slots) (hI : zInv B h) {v : Nat → Nat → Int} (P : PP w (mS w) (mRns w) (mCls w) v) (E : Leq v (vw h.1 (B + 1))) {v2 v3 : Option zv}
    (kk : ∀ (h1 : zH) (k : Int) (v3 : Option zv), zV w p l e R s m args below meth c 4 cells slots Q 219 [some (.inr (30, zwS w 30)), some (.inr (7, B)), some (.inl k), v3] [.inl 1] h1) :
    zV w p l e R s m args below meth c 4 cells slots Q 11 [some (.inr (30, zwS w 30)), some (.inr (7, B)), v2, v3] [] h := by
  have hs := mS_b (w := w)
  obtain ⟨p1, p2, p3, p4, p5, p6, p7⟩ := P
  have X : Ex2 (nC w) ((mS w : Nat) : Int) 0 (vw h.1 (B + 1)) := E.ex2 p2
  obtain ⟨⟨e0, e1, e3, e5, e7⟩, _, _, er, ec⟩ := E
  refine v_iconst C dL_law_11 (by decide) ?_
  refine v_istore_n C dL_law_12 (by decide) ?_
  refine b_fades C hR hcs hI X.2.2.1 (e5.symm.trans p4) (fun r hr j hj => (er r (by rw [p4]; omega) j hj).symm.trans (p5 r hr j hj)) (fun k v3 => ?_) (mS w) 0 _ (Nat.zero_add _)
  refine v_iconst C dL_law_58 (by decide) ?_
  refine v_istore_n C dL_law_59 (by decide) ?_
  refine b_calls C hR hcs hI (e7.symm.trans p6) (fun i hi => ?_) (fun k => ?_) (mCls w) 0 (Nat.zero_add _)
  · have hk : (i : Int) < v 0 7 := by rw [p6]; omega
    obtain ⟨a0, a1, a2, a3⟩ := p7 i hi
    exact ⟨(ec i hk 0 (by decide)).symm.trans a0, (ec i hk 1 (by decide)).symm.trans a1, (ec i hk 2 (by decide)).symm.trans a2, (ec i hk 3 (by decide)).symm.trans a3⟩
  refine v_iconst C dL_law_135 (by decide) ?_
  refine v_istore_n C dL_law_136 (by decide) ?_
  refine b_steps C hR hcs (fun h1 k => kk h1 k _) 10 0 h rfl hI ?_
  rw [hs.2.2] at X
  exact X
end BO
