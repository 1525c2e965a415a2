section O14
variable {A I : Nat → Nat → Int32} {sw : Bool} {pn : Nat} {ps : Nat → Nat} {T : Trs} {K : Nat → Option Trs}
theorem Merge_clashSize {d : Nat → Ent} {n m : Nat} {cp : Nat → Nat} (h : ClC A I d n m cp) : f_Merge_clashSize (Wd A I sw) 56 = some (nI m) := by
  unfold f_Merge_clashSize
  rw [kk_56, gg_56_7, sb, h.1]
theorem Merge_tellClash {d : Nat → Ent} {n m : Nat} {cp : Nat → Nat} (h : ClC A I d n m cp) (hn : n ≤ 36) {i : Nat} (hi : i < m) (z : Int32) : f_Merge_tellClash (Wd A I sw) 56 (nI i) z = some (if z = (0 : Int32) then nI (cp i) else nI (orc d n (cp i))) := by
  have h2 := h.2.1
  obtain ⟨r1, r2⟩ := h.2.2.1 i hi
  unfold f_Merge_tellClash
  rw [kk_56, if_neg (neg_lt0 (by omega)), gg_56_7, sb, h.1, ifc (nI_ltI (by omega) (by omega)), if_pos hi, rr_56_5, sb, ga_61 (by omega), sb, r1, rr_56_6, sb, ga_62 (by omega), sb, r2]
  by_cases c0 : z = (0 : Int32)
  · rw [if_pos c0, if_pos c0, sb]
  · rw [if_neg c0, if_neg c0, sb]
theorem Merge_tellClash_no {d : Nat → Ent} {n m : Nat} {cp : Nat → Nat} (h : ClC A I d n m cp) {x : Int32} (hx : x < 0 ∨ nI m ≤ x) (z : Int32) : f_Merge_tellClash (Wd A I sw) 56 x z = some (-6) := by
  unfold f_Merge_tellClash
  rw [kk_56]
  by_cases c : x < 0
  · rw [if_pos c]
  · rcases hx with hx | hx
    · exact absurd hx c
    · rw [if_neg c, gg_56_7, sb, h.1, if_neg (Int32.not_lt.mpr hx)]
theorem op_clash (h : Inv A I sw) (x y : Int32) : Both A I sw (fun h => f_MF_clash h 0 x y) (fun h => f_Mo_clash h 64 x y) := by
  obtain ⟨pn, ps, T, K, hv, hc, hm⟩ := h
  have no : f_MF_clash (Wd A I sw) 0 x y = some (-2, Wd A I sw) → f_Mo_clash (Wd A I sw) 64 x y = some (-2, Wd A I sw) → Both A I sw (fun h => f_MF_clash h 0 x y) (fun h => f_Mo_clash h 64 x y) := fun a b => Both.mk (x := -2) a b hv hc hm RFr.rf
  rcases pk_ix y (n := 2) (by decide) with q | q | ⟨k, hk, rfl⟩
  · refine no ?_ ?_
    · unfold f_MF_clash
      rw [kk_0, if_pos q]
    · unfold f_Mo_clash
      rw [kk_64, in01_no (Or.inl q), sb, if_pos rfl]
  · refine no ?_ ?_
    · unfold f_MF_clash
      rw [kk_0, if_neg (not_lt0_of q (by decide)), if_neg]
      split
      · exact not_le_of (k := 0) q (by decide) (by decide)
      · exact not_le_of (k := 1) q (by decide) (by decide)
    · unfold f_Mo_clash
      rw [kk_64, in01_no (Or.inr q), sb, if_pos rfl]
  · by_cases hx : x = (-1 : Int32) ∧ k ≠ 0
    · obtain ⟨c, k0⟩ := hx
      refine no ?_ ?_
      · unfold f_MF_clash
        rw [kk_0, if_neg (neg_lt0 (by omega)), if_pos c, ifc (le0 (by omega)), if_neg (by omega)]
      · unfold f_Mo_clash
        rw [kk_64, in01 hk, sb, if_neg (show ¬ (1 : Int32) = 0 by decide), if_pos c, ifc (eq0 (by omega)), if_neg k0]
    · obtain ⟨B, J, z1, z2, z3, z4⟩ := refresh_cls hv.2.1 hc
      have hm2 := z4.mod hm
      obtain ⟨C, L, n, d, m, cp, w1, w2, w3, w4, w5, w6, w7⟩ := both_mg hv.2.1 z3 hm2 sw
      have hn := w2.2.1
      have hmn := w5.2.1
      have m1 := Mo_clash_31 (sw := sw) w3 w4 w5.2.1 w5.2.2.2 x (nI k)
      have rM : f_Mo_clash (Wd B J sw) 64 x (nI k) = some (clR d n m cp x (nI k), Wd C L sw) := by
        have r22 : f_Mo_clash_22 (Wd B J sw) 64 x (nI k) = some (clR d n m cp x (nI k), Wd C L sw) := by
          unfold f_Mo_clash_22
          rw [w1, sb, m1]
        unfold f_Mo_clash
        rw [kk_64, in01 hk, sb, if_neg (show ¬ (1 : Int32) = 0 by decide)]
        by_cases c : x = (-1 : Int32)
        · rw [if_pos c, ifc (eq0 (by omega)), if_pos (Classical.byContradiction fun w => hx ⟨c, w⟩), r22]
        · rw [if_neg c, r22]
      have rC : f_MF_clash (Wd A I sw) 0 x (nI k) = (if x = (-1 : Int32) then f_Merge_clashSize (Wd B J sw) 56 else f_Merge_tellClash (Wd B J sw) 56 x (nI k)).bind fun r => some (r, Wd B J sw) := by
        unfold f_MF_clash
        rw [kk_0, if_neg (neg_lt0 (by omega))]
        by_cases c : x = (-1 : Int32)
        · rw [if_pos c, ifc (le0 (by omega)), if_pos (by have : k = 0 := Classical.byContradiction fun w => hx ⟨c, w⟩; omega), z1, sb, if_pos c, if_pos c, rr_0_8, sb, Merge_clashSize w5, sb, sb]
        · rw [if_neg c, ifc (le1 (by omega)), if_pos (by omega), z1, sb, if_neg c, if_neg c, rr_0_8, sb]
          cases f_Merge_tellClash (Wd B J sw) 56 x (nI k) <;> rfl
      by_cases c : x = (-1 : Int32)
      · refine Both.mk (x := nI m) ?_ ?_ hv z2 w6 w7
        · rw [rC, if_pos c, Merge_clashSize w5, sb]
        · rw [rM, clR_none, if_pos c]
          intro q hq e
          rw [c] at e
          exact nI_nm1 (by omega) e.symm
      · rcases pk_ix x (n := m) (by omega) with u | u | ⟨i, hi, rfl⟩
        · refine Both.mk (x := -6) ?_ ?_ hv z2 w6 w7
          · rw [rC, if_neg c, Merge_tellClash_no w5 (Or.inl u), sb]
          · rw [rM, clR_none, if_neg c]
            intro q hq e
            rw [e] at u
            exact neg_lt0 (by omega) u
        · refine Both.mk (x := -6) ?_ ?_ hv z2 w6 w7
          · rw [rC, if_neg c, Merge_tellClash_no w5 (Or.inr u), sb]
          · rw [rM, clR_none, if_neg c]
            intro q hq e
            rw [e] at u
            have := (nI_leI (by omega) (by omega)).mp u
            omega
        · refine Both.mk (x := clR d n m cp (nI i) (nI k)) ?_ rM hv z2 w6 w7
          rw [rC, if_neg c, Merge_tellClash w5 hn hi, sb, clR_some hi (by omega)]
end O14
