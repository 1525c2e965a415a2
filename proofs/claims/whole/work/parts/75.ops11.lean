theorem ev01 : ∀ b : Bool, (if (if b = true then (1 : Int32) else (0 : Int32)) = (0 : Int32) then (0 : Int32) else (1 : Int32)) = if b = true then 1 else 0 := by decide
section O11
variable {A I : Nat → Nat → Int32} {sw : Bool} {pn : Nat} {ps : Nat → Nat} {T : Trs} {K : Nat → Option Trs}
theorem op_moved (h : Inv A I sw) (x y z : Int32) : Both A I sw (fun h => f_MF_moved h 0 x y z) (fun h => f_Mo_moved h 64 x y z) := by
  obtain ⟨pn, ps, T, K, hv, hc, hm⟩ := h
  have no : (x = nI 0 ∨ x < 0 ∨ nI 3 ≤ x) → Both A I sw (fun h => f_MF_moved h 0 x y z) (fun h => f_Mo_moved h 64 x y z) := by
    intro q
    refine Both.mk (x := -1) (B := A) (J := I) (C := A) (L := I) ?_ ?_ hv hc hm RFr.rf
    · unfold f_MF_moved
      rw [kk_0, MF_isSide_out q, sb, if_pos rfl]
    · unfold f_Mo_moved
      rw [kk_64, Mo_isSide_out q, sb, if_pos rfl]
  rcases tri x with ⟨t, ht, rfl⟩ | q
  · by_cases t0 : t = 0
    · exact no (Or.inl (by rw [t0]))
    · have h1 : 1 ≤ t := by omega
      rcases isF y with ⟨a1, a2⟩ | ⟨F, hF, vf, rfl, a1, a2⟩
      · refine Both.mk (x := -2) (B := A) (J := I) (C := A) (L := I) ?_ ?_ hv hc hm RFr.rf
        · unfold f_MF_moved
          rw [kk_0, MF_isSide_in h1 ht, sb, if_neg (show ¬ (1 : Int32) = 0 by decide), a1, sb, if_pos rfl]
        · unfold f_Mo_moved
          rw [kk_64, Mo_isSide_in h1 ht, sb, if_neg (show ¬ (1 : Int32) = 0 by decide), a2, sb, if_pos rfl]
      · rcases two z with ⟨k, hk, rfl⟩ | q
        · obtain ⟨B, J, z1, z2, z3, z4⟩ := refresh_cls hv.2.1 hc
          obtain ⟨o, s1, s2, s3⟩ := MF_side (A := B) (I := J) (sw := sw) h1 ht
          have hm2 := z4.mod hm
          obtain ⟨n, st, g1, g2⟩ := z3.moves h1 ht
          obtain ⟨C, w1, w2, w3, w4⟩ := Mo_both (sw := sw) hv.2.1 hm2
          have vx := hv.2.1.vx
          have hgt := Moves_targetOf (sw := sw) (isM_m t) g1 (F := F) (by omega)
          have hgr := Moves_goesRound (sw := sw) (isM_m t) g1 g2 (F := F) (by omega)
          have c72 : gA (Wd C J sw) false 72 (nI (445 * t + F)) = some (o2i (tF T t F)) := by
            rw [ga_72 (by omega)]
            exact congrArg some (w2.mv h1 ht F (by omega))
          have runC : f_MF_moved (Wd A I sw) 0 (nI t) (nI F) (nI k) = (if nI k = (0 : Int32) then some (o2i (tF T t F), Wd B J sw) else (if o2i (tF T t F) = (-6 : Int32) then some (o2i (tF T t F), Wd B J sw) else some ((if (if rnd (tF T t) (tF1 T) (tF2 T) F = true then (1 : Int32) else (0 : Int32)) = (0 : Int32) then ((0 : Int32)) else ((1 : Int32))), Wd B J sw))) := by
            unfold f_MF_moved
            rw [kk_0, MF_isSide_in h1 ht, sb, if_neg (show ¬ (1 : Int32) = 0 by decide), a1, sb, if_neg (show ¬ (1 : Int32) = 0 by decide), if_neg (neg_lt0 (by omega)), ifc (le1 (by omega)), if_pos (by omega), z1, sb, s1, sb, s3, sb, hgt, sb, hgr, sb]
          cases eG : tF T t F with
          | none =>
            rw [eG] at c72 runC
            refine Both.mk (x := -6) (B := B) (J := J) (C := C) (L := J) ?_ ?_ hv z2 w3 w4
            · rw [runC, o2i_n, if_pos (show (-6 : Int32) = -6 from rfl), ite_self]
            · unfold f_Mo_moved
              rw [kk_64, Mo_isSide_in h1 ht, sb, if_neg (show ¬ (1 : Int32) = 0 by decide), a2, sb, if_neg (show ¬ (1 : Int32) = 0 by decide), in01 hk, sb, if_neg (show ¬ (1 : Int32) = 0 by decide), w1, sb, rr_64_14, sb, mix5, c72, sb, o2i_n, if_pos m6_lt0, sb]
          | some G =>
            have hG := tF_v hv.2.1 h1 ht F G eG
            have c72' := c72
            rw [eG] at c72' runC
            rcases (show k = 0 ∨ k = 1 by omega) with rfl | rfl
            · refine Both.mk (x := nI G) (B := B) (J := J) (C := C) (L := J) ?_ ?_ hv z2 w3 w4
              · rw [runC, if_pos (show nI 0 = (0 : Int32) from rfl), o2i_s]
              · unfold f_Mo_moved
                rw [kk_64, Mo_isSide_in h1 ht, sb, if_neg (show ¬ (1 : Int32) = 0 by decide), a2, sb, if_neg (show ¬ (1 : Int32) = 0 by decide), in01 hk, sb, if_neg (show ¬ (1 : Int32) = 0 by decide), w1, sb, rr_64_14, sb, mix5, c72', sb, o2i_s, if_neg (neg_lt0 (by omega)), if_pos (show nI 0 = (0 : Int32) from rfl), sb]
            · obtain ⟨C2, y1, y2⟩ := Mo_isLoop (I := J) (sw := sw) ht w2.2.2.2.2.2.1 w2.2.2.2.2.2.2 (w2.mv h1 ht) (fun F G e => (vx.2.2.2.2.2.1 F G e).1) (fun F G e => (vx.2.2.2.2.2.2 F G e).1) (F := F) (by omega) hG.1 eG
              obtain ⟨r1, r2⟩ := y2.mod w3
              refine Both.mk (x := if rnd (tF T t) (tF1 T) (tF2 T) F = true then 1 else 0) (B := B) (J := J) (C := C2) (L := J) ?_ ?_ hv z2 r1 (w4.tr r2)
              · rw [runC, if_neg (show ¬ nI 1 = (0 : Int32) by decide), o2i_s, if_neg (nI_ne6 (by omega)), ev01]
              · unfold f_Mo_moved
                rw [kk_64, Mo_isSide_in h1 ht, sb, if_neg (show ¬ (1 : Int32) = 0 by decide), a2, sb, if_neg (show ¬ (1 : Int32) = 0 by decide), in01 hk, sb, if_neg (show ¬ (1 : Int32) = 0 by decide), w1, sb, rr_64_14, sb, mix5, c72', sb, o2i_s, if_neg (neg_lt0 (by omega)), if_neg (show ¬ nI 1 = (0 : Int32) by decide), y1, sb]
                dsimp only
                cases rnd (tF T t) (tF1 T) (tF2 T) F with
                | true => rw [if_neg (show ¬ (if true = true then (1 : Int32) else (0 : Int32)) = 0 by decide), sb, if_pos rfl]
                | false => rw [if_pos (show (if false = true then (1 : Int32) else (0 : Int32)) = 0 by decide), sb, if_neg (show ¬ false = true by decide)]
        · refine Both.mk (x := -2) (B := A) (J := I) (C := A) (L := I) ?_ ?_ hv hc hm RFr.rf
          · unfold f_MF_moved
            rw [kk_0, MF_isSide_in h1 ht, sb, if_neg (show ¬ (1 : Int32) = 0 by decide), a1, sb, if_neg (show ¬ (1 : Int32) = 0 by decide)]
            rcases q with q | q
            · rw [if_pos q]
            · have g0 : ¬ z < (0 : Int32) := fun w => by
                rw [Int32.lt_iff_toInt_lt] at w
                rw [Int32.le_iff_toInt_le, nI_toInt (by decide)] at q
                have : (0 : Int32).toInt = 0 := rfl
                omega
              have g1 : ¬ z ≤ (1 : Int32) := fun w => by
                rw [Int32.le_iff_toInt_le] at w q
                rw [nI_toInt (by decide)] at q
                have : (1 : Int32).toInt = 1 := by decide
                omega
              rw [if_neg g0, if_neg g1]
          · unfold f_Mo_moved
            rw [kk_64, Mo_isSide_in h1 ht, sb, if_neg (show ¬ (1 : Int32) = 0 by decide), a2, sb, if_neg (show ¬ (1 : Int32) = 0 by decide), in01_no q, sb, if_pos rfl]
  · exact no (Or.inr q)
end O11
