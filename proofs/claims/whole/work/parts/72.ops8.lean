section O8
variable {A I : Nat → Nat → Int32} {sw : Bool}
theorem op_pair (h : Inv A I sw) (x y z : Int32) : Both A I sw (fun h => f_MF_pair h 0 x y z) (fun h => f_Mo_pair h 64 x y z) := by
  obtain ⟨pn, ps, T, K, hv, hc, hm⟩ := h
  have no : (x = nI 0 ∨ x < 0 ∨ nI 3 ≤ x) → Both A I sw (fun h => f_MF_pair h 0 x y z) (fun h => f_Mo_pair h 64 x y z) := by
    intro q
    refine Both.mk (x := -1) (B := A) (J := I) (C := A) (L := I) ?_ ?_ hv hc hm RFr.rf
    · unfold f_MF_pair
      rw [kk_0, MF_isSide_out q, sb, if_pos rfl]
    · unfold f_Mo_pair
      rw [kk_64, Mo_isSide_out q, sb, if_pos rfl]
  rcases tri x with ⟨t, ht, rfl⟩ | q
  · by_cases t0 : t = 0
    · exact no (Or.inl (by rw [t0]))
    · have h1 : 1 ≤ t := by omega
      rcases isFl (J := I) hc.2.1 (fun t ht => hm.tr ht) sw (0 : Int32) y with ⟨e1, e2⟩ | ⟨u, i, hu, hi, eu, rfl, e1, e2⟩
      · refine Both.mk (x := -1) (B := A) (J := I) (C := A) (L := I) ?_ ?_ hv hc hm RFr.rf
        · unfold f_MF_pair
          rw [kk_0, MF_isSide_in h1 ht, sb, if_neg (show ¬ (1 : Int32) = 0 by decide), e1, sb, if_pos rfl]
        · unfold f_Mo_pair
          rw [kk_64, Mo_isSide_in h1 ht, sb, if_neg (show ¬ (1 : Int32) = 0 by decide), e2, sb, if_pos rfl]
      · have u0 : 0 = u := (nI_eq (by omega) (by omega)).mp eu
        subst u0
        have hi : i < T.1.1 := hi
        obtain ⟨B, J, z1, z2, z3, z4⟩ := refresh_cls hv.2.1 hc
        obtain ⟨o, s1, s2, s3⟩ := MF_side (A := B) (I := J) (sw := sw) h1 ht
        have hm2 := z4.mod hm
        have hb := hm2.2.1.2.1
        have e3 : f_Mo_isFile (Wd B J sw) 64 (0 : Int32) (nI i) = some 1 := Mo_isFile_in (t := 0) (by decide) hm2.2.1 hi
        have pp := z3.pairs h1 ht
        rcases two z with ⟨k, hk, rfl⟩ | q
        · obtain ⟨C, w1, w2, w3, w4⟩ := Mo_pairs (sw := sw) hv.2.1 hm2 h1 ht
          rcases (show k = 0 ∨ k = 1 by omega) with rfl | rfl
          · refine Both.mk (x := o2i ((tS T t).1 i)) ?_ ?_ hv z2 w3 w4
            · unfold f_MF_pair
              rw [kk_0, MF_isSide_in h1 ht, sb, if_neg (show ¬ (1 : Int32) = 0 by decide), e1, sb, if_neg (show ¬ (1 : Int32) = 0 by decide), z1, sb, if_pos (show nI 0 = (0 : Int32) from rfl), s1, sb, s2, sb, Pairs_mateOf (isP_p t) pp (by omega), sb]
            · unfold f_Mo_pair
              rw [kk_64, Mo_isSide_in h1 ht, sb, if_neg (show ¬ (1 : Int32) = 0 by decide), e3, sb, if_neg (show ¬ (1 : Int32) = 0 by decide), in01 hk, sb, if_neg (show ¬ (1 : Int32) = 0 by decide), w1, sb, if_pos (show nI 0 = (0 : Int32) from rfl), rr_64_11, sb, mix, ga_69 (by omega), sb, (w2 i (by omega)).1, sb]
          · refine Both.mk (x := o2i ((tS T t).2.1 i)) ?_ ?_ hv z2 w3 w4
            · unfold f_MF_pair
              rw [kk_0, MF_isSide_in h1 ht, sb, if_neg (show ¬ (1 : Int32) = 0 by decide), e1, sb, if_neg (show ¬ (1 : Int32) = 0 by decide), z1, sb, if_neg (show ¬ nI 1 = (0 : Int32) by decide), if_pos (show nI 1 = (1 : Int32) from rfl), s1, sb, s2, sb, Pairs_wayOf (isP_p t) pp (by omega), sb]
            · unfold f_Mo_pair
              rw [kk_64, Mo_isSide_in h1 ht, sb, if_neg (show ¬ (1 : Int32) = 0 by decide), e3, sb, if_neg (show ¬ (1 : Int32) = 0 by decide), in01 hk, sb, if_neg (show ¬ (1 : Int32) = 0 by decide), w1, sb, if_neg (show ¬ nI 1 = (0 : Int32) by decide), rr_64_12, sb, mix, ga_70 (by omega), sb, (w2 i (by omega)).2.1, sb]
        · have n0 : ¬ z = (0 : Int32) := no_in (n := 2) (t := 0) (by decide) q (by decide)
          have n1 : ¬ z = (1 : Int32) := no_in (n := 2) (t := 1) (by decide) q (by decide)
          refine Both.mk (x := -2) ?_ ?_ hv z2 hm2 RFr.rf
          · unfold f_MF_pair
            rw [kk_0, MF_isSide_in h1 ht, sb, if_neg (show ¬ (1 : Int32) = 0 by decide), e1, sb, if_neg (show ¬ (1 : Int32) = 0 by decide), z1, sb, if_neg n0, if_neg n1]
          · unfold f_Mo_pair
            rw [kk_64, Mo_isSide_in h1 ht, sb, if_neg (show ¬ (1 : Int32) = 0 by decide), e3, sb, if_neg (show ¬ (1 : Int32) = 0 by decide), in01_no q, sb, if_pos rfl]
  · exact no (Or.inr q)
end O8
