/-! Laying the bursts: the reference. -/
theorem z_awb {x : Int} {j : Nat} (hj : j < 16) : zand (zshr x (j : Int)) 1 = 0 ↔ ¬ awy x j = true := by
  have hs : ((zi (j : Int) &&& 31).toBitVec.smod 32).toNat = j := by
    have h3 : ∀ k : Nat, k < 16 → ((zi (k : Int) &&& 31).toBitVec.smod 32).toNat = k := by decide
    exact h3 j hj
  have e1 : zand (zshr x (j : Int)) 1 = ((zi x).toBitVec.sshiftRight j &&& 1#32).toInt := by
    unfold zand zshr
    rw [zi_of]
    show ((zi x >>> (zi (j : Int) &&& 31)) &&& zi 1).toBitVec.toInt = _
    rw [Int32.toBitVec_and, Int32.toBitVec_shiftRight]
    show (BitVec.sshiftRight _ _ &&& _).toInt = _
    rw [hs]
    rfl
  have e2 : ((zi x).toBitVec.sshiftRight j).getLsbD 0 = awy x j := by
    rw [BitVec.getLsbD_sshiftRight]
    unfold awy
    simp
    omega
  rw [e1, BitVec.and_one_eq_setWidth_ofBool_getLsbD, e2]
  cases awy x j
  · exact ⟨fun _ => by decide, fun _ => by decide⟩
  · exact ⟨fun z => absurd z (by decide), fun z => absurd rfl z⟩
