section O9
variable {A I : Nat → Nat → Int32} {sw : Bool} {pn : Nat} {ps : Nat → Nat} {T : Trs} {K : Nat → Option Trs}
theorem tS_WF {t : Nat} (h1 : 1 ≤ t) (ht : t < 3) : WFp T.1.1 (trT T t).1 (tS T t) := by
  rw [tS_eq h1 ht]
  exact prs_WF
theorem op_votes (h : Inv A I sw) (x y z : Int32) : Both A I sw (fun h => f_MF_votes h 0 x y z) (fun h => f_Mo_votes h 64 x y z) := by
  obtain ⟨pn, ps, T, K, hv, hc, hm⟩ := h
  have no : (x = nI 0 ∨ x < 0 ∨ nI 3 ≤ x) → Both A I sw (fun h => f_MF_votes h 0 x y z) (fun h => f_Mo_votes h 64 x y z) := by
    intro q
    refine Both.mk (x := -1) (B := A) (J := I) (C := A) (L := I) ?_ ?_ hv hc hm RFr.rf
    · unfold f_MF_votes
      rw [kk_0, MF_isSide_out q, sb, if_pos rfl]
    · unfold f_Mo_votes
      rw [kk_64, Mo_isSide_out q, sb, if_pos rfl]
  rcases tri x with ⟨t, ht, rfl⟩ | q
  · by_cases t0 : t = 0
    · exact no (Or.inl (by rw [t0]))
    · have h1 : 1 ≤ t := by omega
      rcases isF y with ⟨a1, a2⟩ | ⟨F, hF, vf, rfl, a1, a2⟩
      · refine Both.mk (x := -2) (B := A) (J := I) (C := A) (L := I) ?_ ?_ hv hc hm RFr.rf
        · unfold f_MF_votes
          rw [kk_0, MF_isSide_in h1 ht, sb, if_neg (show ¬ (1 : Int32) = 0 by decide), a1, sb, if_pos rfl]
        · unfold f_Mo_votes
          rw [kk_64, Mo_isSide_in h1 ht, sb, if_neg (show ¬ (1 : Int32) = 0 by decide), a2, sb, if_pos rfl]
      · rcases isF z with ⟨b1, b2⟩ | ⟨G, hG, vg, rfl, b1, b2⟩
        · refine Both.mk (x := -2) (B := A) (J := I) (C := A) (L := I) ?_ ?_ hv hc hm RFr.rf
          · unfold f_MF_votes
            rw [kk_0, MF_isSide_in h1 ht, sb, if_neg (show ¬ (1 : Int32) = 0 by decide), a1, sb, if_neg (show ¬ (1 : Int32) = 0 by decide), b1, sb, if_pos rfl]
          · unfold f_Mo_votes
            rw [kk_64, Mo_isSide_in h1 ht, sb, if_neg (show ¬ (1 : Int32) = 0 by decide), a2, sb, if_neg (show ¬ (1 : Int32) = 0 by decide), b2, sb, if_pos rfl]
        · by_cases e : nI F = nI G
          · refine Both.mk (x := -2) (B := A) (J := I) (C := A) (L := I) ?_ ?_ hv hc hm RFr.rf
            · unfold f_MF_votes
              rw [kk_0, MF_isSide_in h1 ht, sb, if_neg (show ¬ (1 : Int32) = 0 by decide), a1, sb, if_neg (show ¬ (1 : Int32) = 0 by decide), b1, sb, if_neg (show ¬ (1 : Int32) = 0 by decide), if_pos e]
            · unfold f_Mo_votes
              rw [kk_64, Mo_isSide_in h1 ht, sb, if_neg (show ¬ (1 : Int32) = 0 by decide), a2, sb, if_neg (show ¬ (1 : Int32) = 0 by decide), b2, sb, if_neg (show ¬ (1 : Int32) = 0 by decide), if_pos e]
          · obtain ⟨B, J, z1, z2, z3, z4⟩ := refresh_cls hv.2.1 hc
            obtain ⟨o, s1, s2, s3⟩ := MF_side (A := B) (I := J) (sw := sw) h1 ht
            have hm2 := z4.mod hm
            obtain ⟨C, w1, w2, w3, w4⟩ := Mo_pairs (sw := sw) hv.2.1 hm2 h1 ht
            refine Both.mk (x := nI (vts T.1 (trT T t) (tS T t) F G)) ?_ ?_ hv z2 w3 w4
            · unfold f_MF_votes
              rw [kk_0, MF_isSide_in h1 ht, sb, if_neg (show ¬ (1 : Int32) = 0 by decide), a1, sb, if_neg (show ¬ (1 : Int32) = 0 by decide), b1, sb, if_neg (show ¬ (1 : Int32) = 0 by decide), if_neg e, z1, sb, s1, sb, s2, sb, rr_0_1, sb, rr_3_0, sb, MF_treeOf ht, sb, Pairs_countWent (isP_p t) (isTr sw t) z2.2.1.1 (z2.2.1.tr t) hv.2.1.1 (hv.2.1.tr t) (tS_WF h1 ht) (z3.pairs h1 ht) (by omega) (by omega), sb]
            · unfold f_Mo_votes
              rw [kk_64, Mo_isSide_in h1 ht, sb, if_neg (show ¬ (1 : Int32) = 0 by decide), a2, sb, if_neg (show ¬ (1 : Int32) = 0 by decide), b2, sb, if_neg (show ¬ (1 : Int32) = 0 by decide), if_neg e, w1, sb, Mo_votesOf ht w3.2.1 (w3.tr ht) hv.2.1.1 (hv.2.1.tr t) (tS_WF h1 ht) w2 (by omega) (by omega), sb]
  · exact no (Or.inr q)
end O9
