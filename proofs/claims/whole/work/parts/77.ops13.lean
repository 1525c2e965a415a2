section O13
variable {A I : Nat → Nat → Int32} {sw : Bool} {pn : Nat} {ps : Nat → Nat} {T : Trs} {K : Nat → Option Trs}
theorem in_ix_no {n : Nat} (hn : n ≤ 36) {x : Int32} (hx : x < 0 ∨ nI n ≤ x) : f_Mo_in x.toInt64 (0 : Int64) (nI n - (1 : Int32)).toInt64 = some 0 := by
  rw [inL x 0 (nI n - 1) (a := 0) rfl rfl, if_neg]
  rintro ⟨a, b⟩
  rcases hx with hx | hx
  · exact absurd a (Int32.not_le.mpr hx)
  · have c := Int32.le_trans hx b
    by_cases n0 : n = 0
    · subst n0; exact absurd c (by decide)
    · rw [sub1 (by omega), nI_leI (by omega) (by omega)] at c; omega
theorem in_ix {n i : Nat} (hn : n ≤ 36) (hi : i < n) : f_Mo_in (nI i).toInt64 (0 : Int64) (nI n - (1 : Int32)).toInt64 = some 1 := by
  rw [sub1 (by omega), inN (a := 0) (lo := 0) (hi := n - 1) rfl rfl (by omega) (by omega) (by omega), if_pos ⟨by omega, by omega⟩]
theorem nI_nm1 {i : Nat} (h : i < 2 ^ 31) : ¬ nI i = (-1 : Int32) := fun e => by
  have := congrArg Int32.toInt e
  rw [nI_toInt h] at this
  have : (-1 : Int32).toInt = -1 := by decide
  omega
theorem Mo_entry_24 {n : Nat} {d : Nat → Ent} {C L : Nat → Nat → Int32} (w1 : f_Mo_merge (Wd A I sw) 64 = some (Wd C L sw)) (h : EntM C L n d) (x y : Int32) : ((x < 0 ∨ nI n ≤ x) → f_Mo_entry_24 (Wd A I sw) 64 x y = some (if x = (-1 : Int32) then nI n else -6, Wd C L sw)) ∧ ∀ i, i < n → x = nI i → f_Mo_entry_24 (Wd A I sw) 64 x y = some (nI (fld (d i) y), Wd C L sw) := by
  have hn := h.2.1
  refine ⟨fun hx => ?_, fun i hi e => ?_⟩
  · unfold f_Mo_entry_24
    rw [w1, sb, gg_64_20, sb, h.1, in_ix_no hn hx, sb, if_pos rfl]
    by_cases c : x = (-1 : Int32)
    · rw [if_pos c, if_pos c, sb, sb]
    · rw [if_neg c, if_neg c, sb]
  · subst e
    obtain ⟨⟨r1, r2, r3, r4⟩, -⟩ := h.2.2 i hi
    have r2 : C 75 i = nI (d i).2.1 := r2
    have r3 : C 76 i = nI (d i).2.2.1 := r3
    have r4 : C 77 i = nI (d i).2.2.2 := r4
    unfold f_Mo_entry_24 fld
    rw [w1, sb, gg_64_20, sb, h.1, in_ix hn hi, sb, if_neg (show ¬ (1 : Int32) = 0 by decide), rr_64_16, sb, ga_74 (by omega), sb, r1, rr_64_17, sb, ga_75 (by omega), sb, r2, rr_64_18, sb, ga_76 (by omega), sb, r3, rr_64_19, sb, ga_77 (by omega), sb, r4]
    by_cases c0 : y = (0 : Int32)
    · rw [if_pos c0, if_pos c0, sb]
    · by_cases c1 : y = (1 : Int32)
      · rw [if_neg c0, if_pos c1, if_neg c0, if_pos c1, sb]
      · by_cases c2 : y = (2 : Int32)
        · rw [if_neg c0, if_neg c1, if_pos c2, if_neg c0, if_neg c1, if_pos c2, sb]
        · rw [if_neg c0, if_neg c1, if_neg c2, if_neg c0, if_neg c1, if_neg c2, sb]
theorem not_le_of {y : Int32} {n k : Nat} (h : nI n ≤ y) (hk : k < n) (hn : n < 2 ^ 31) : ¬ y ≤ nI k := fun w => by
  rw [Int32.le_iff_toInt_le] at w h
  rw [nI_toInt (by omega)] at w h
  omega
theorem not_lt0_of {y : Int32} {n : Nat} (h : nI n ≤ y) (hn : n < 2 ^ 31) : ¬ y < (0 : Int32) := fun w => by
  rw [Int32.lt_iff_toInt_lt] at w
  rw [Int32.le_iff_toInt_le, nI_toInt (by omega)] at h
  have : (0 : Int32).toInt = 0 := rfl
  omega
theorem op_entry (h : Inv A I sw) (x y : Int32) : Both A I sw (fun h => f_MF_entry h 0 x y) (fun h => f_Mo_entry h 64 x y) := by
  obtain ⟨pn, ps, T, K, hv, hc, hm⟩ := h
  have no : f_MF_entry (Wd A I sw) 0 x y = some (-2, Wd A I sw) → f_Mo_entry (Wd A I sw) 64 x y = some (-2, Wd A I sw) → Both A I sw (fun h => f_MF_entry h 0 x y) (fun h => f_Mo_entry h 64 x y) := fun a b => Both.mk (x := -2) a b hv hc hm RFr.rf
  rcases pk_ix y (n := 4) (by decide) with q | q | ⟨k, hk, rfl⟩
  · refine no ?_ ?_
    · unfold f_MF_entry
      rw [kk_0, if_pos q]
    · unfold f_Mo_entry
      rw [kk_64, inL y 0 3 (a := 0) (b := 3) rfl rfl, if_neg (fun w => absurd w.1 (Int32.not_le.mpr q)), sb, if_pos rfl]
  · refine no ?_ ?_
    · unfold f_MF_entry
      rw [kk_0, if_neg (not_lt0_of q (by decide)), if_neg]
      split
      · exact not_le_of (k := 0) q (by decide) (by decide)
      · exact not_le_of (k := 3) q (by decide) (by decide)
    · unfold f_Mo_entry
      rw [kk_64, inL y 0 3 (a := 0) (b := 3) rfl rfl, if_neg (fun w => absurd w.2 (not_le_of (k := 3) q (by decide) (by decide))), sb, if_pos rfl]
  · have in3 : f_Mo_in (nI k).toInt64 (0 : Int64) (3 : Int64) = some 1 := by
      rw [inN (a := 0) (b := 3) (lo := 0) (hi := 3) rfl rfl (by omega) (by decide) (by decide), if_pos ⟨by omega, by omega⟩]
    by_cases hx : x = (-1 : Int32) ∧ k ≠ 0
    · obtain ⟨c, k0⟩ := hx
      refine no ?_ ?_
      · unfold f_MF_entry
        rw [kk_0, if_neg (neg_lt0 (by omega)), if_pos c, ifc (le0 (by omega)), if_neg (by omega)]
      · unfold f_Mo_entry
        rw [kk_64, in3, sb, if_neg (show ¬ (1 : Int32) = 0 by decide), if_pos c, ifc (eq0 (by omega)), if_neg k0]
    · obtain ⟨B, J, z1, z2, z3, z4⟩ := refresh_cls hv.2.1 hc
      have hm2 := z4.mod hm
      obtain ⟨C, L, n, d, m, cp, w1, w2, w3, w4, w5, w6, w7⟩ := both_mg hv.2.1 z3 hm2 sw
      obtain ⟨m1, m2⟩ := Mo_entry_24 w1 w3 x (nI k)
      have rM : f_Mo_entry (Wd B J sw) 64 x (nI k) = f_Mo_entry_24 (Wd B J sw) 64 x (nI k) := by
        unfold f_Mo_entry
        rw [kk_64, in3, sb, if_neg (show ¬ (1 : Int32) = 0 by decide)]
        by_cases c : x = (-1 : Int32)
        · rw [if_pos c, ifc (eq0 (by omega)), if_pos (Classical.byContradiction fun w => hx ⟨c, w⟩)]
        · rw [if_neg c]
      have rC : f_MF_entry (Wd A I sw) 0 x (nI k) = (if x = (-1 : Int32) then f_Merge_size (Wd B J sw) 56 else f_Merge_tell (Wd B J sw) 56 x (nI k)).bind fun r => some (r, Wd B J sw) := by
        unfold f_MF_entry
        rw [kk_0, if_neg (neg_lt0 (by omega))]
        by_cases c : x = (-1 : Int32)
        · rw [if_pos c, ifc (le0 (by omega)), if_pos (by have : k = 0 := Classical.byContradiction fun w => hx ⟨c, w⟩; omega), z1, sb, if_pos c, if_pos c, rr_0_8, sb]
          unfold f_Merge_size
          rw [kk_56, gg_56_4, sb, sb]
        · rw [if_neg c, ifc (show nI k ≤ (3 : Int32) ↔ k ≤ 3 from nI_leI (by omega) (by decide)), if_pos (by omega), z1, sb, if_neg c, if_neg c, rr_0_8, sb]
          cases f_Merge_tell (Wd B J sw) 56 x (nI k) <;> rfl
      by_cases c : x = (-1 : Int32)
      · refine Both.mk (x := nI n) ?_ ?_ hv z2 w6 w7
        · rw [rC, if_pos c]
          unfold f_Merge_size
          rw [kk_56, gg_56_4, sb, w2.1, sb]
        · rw [rM, m1 (Or.inl (by rw [c]; decide)), if_pos c]
      · rcases pk_ix x (n := n) (by have := w2.2.1; omega) with u | u | ⟨i, hi, rfl⟩
        · refine Both.mk (x := -6) ?_ ?_ hv z2 w6 w7
          · rw [rC, if_neg c, Merge_tell_no w2 (Or.inl u), sb]
          · rw [rM, m1 (Or.inl u), if_neg c]
        · refine Both.mk (x := -6) ?_ ?_ hv z2 w6 w7
          · rw [rC, if_neg c, Merge_tell_no w2 (Or.inr u), sb]
          · rw [rM, m1 (Or.inr u), if_neg c]
        · refine Both.mk (x := nI (fld (d i) (nI k))) ?_ ?_ hv z2 w6 w7
          · rw [rC, if_neg c, Merge_tell w2 hi, sb]
          · rw [rM, m2 i hi rfl]
end O13
