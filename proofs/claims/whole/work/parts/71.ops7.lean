-- ===== operations that ask what was found =====
theorem ModRel.kept {A I A' I' : Nat → Nat → Int32} {pn : Nat} {ps : Nat → Nat} {T : Trs} {K : Nat → Option Trs} (h : ModRel A I pn ps T K) (h1 : ∀ a, (a < 69 ∨ 79 ≤ a) → A' a = A a) (h2 : I' 64 5 = I 64 5) (h3 : I' 64 3 = I 64 3) : ModRel A' I' pn ps T K := by
  unfold ModRel PadM MTree KM KM1 ImM at h ⊢
  rw [h1 65 (by decide), h1 66 (by decide), h1 67 (by decide), h1 68 (by decide), h1 79 (by decide), h1 80 (by decide), h2, h3]
  exact h
section O7
variable {A I : Nat → Nat → Int32} {sw : Bool} {pn : Nat} {ps : Nat → Nat} {T : Trs} {K : Nat → Option Trs}
theorem refresh_cls (hv : VTs T) (hc : ClsRel A I sw pn ps T K) : ∃ B J, f_MF_refresh (Wd A I sw) 0 = some (Wd B J sw) ∧ ClsRel B J sw pn ps T K ∧ Cache B J sw T ∧ CFr A I B J := by
  obtain ⟨k1, k2, k3, k4⟩ := hc
  obtain ⟨B, J, z1, z2, z3, z4, z5⟩ := MF_refresh (sw := sw) hv k2 k4
  refine ⟨B, J, z1, ⟨?_, z2, ?_, Or.inr ⟨z3, z4⟩⟩, z4, z5.cf⟩
  · unfold PadC at k1 ⊢
    rw [z5.1 2 (by decide), z5.2 1 1 (by decide) (by decide)]
    exact k1
  · exact k3.kept (fun a _ ha => z5.1 a (by omega)) (fun a ha hb => funext fun b => z5.2 a b (by omega) (by omega))
def tS (T : Trs) (t : Nat) : Pst := if t = 1 then tS1 T else tS2 T
def pR (t : Nat) : Nat := if t = 1 then 35 else 45
def mR (t : Nat) : Nat := if t = 1 then 40 else 50
def tF (T : Trs) (t : Nat) : Nat → Option Nat := if t = 1 then tF1 T else tF2 T
theorem isP_p (t : Nat) : isP (pR t) = true := by unfold pR; split <;> decide
theorem isM_m (t : Nat) : isM (mR t) = true := by unfold mR; split <;> decide
theorem MF_side {t : Nat} (h1 : 1 ≤ t) (ht : t < 3) : ∃ o, f_MF_sideOf (Wd A I sw) 0 (nI t) = some o ∧ gR (Wd A I sw) 6 o 0 = some (pR t) ∧ gR (Wd A I sw) 6 o 1 = some (mR t) := by
  unfold f_MF_sideOf
  rcases (show t = 1 ∨ t = 2 by omega) with rfl | rfl
  · exact ⟨34, by rw [kk_0, if_pos (show nI 1 = (1 : Int32) from rfl), rr_0_5, sb, sb], rr_34_0, rr_34_1⟩
  · exact ⟨44, by rw [kk_0, if_neg (show ¬ nI 2 = (1 : Int32) by decide), rr_0_6, sb, sb], rr_44_0, rr_44_1⟩
theorem Cache.pairs (h : Cache A I sw T) {t : Nat} (h1 : 1 ≤ t) (ht : t < 3) : PairsIs A (pR t) (tS T t) := by
  obtain ⟨n1, n2, st1, st2, n, d, m, cp, c, -⟩ := h
  rcases (show t = 1 ∨ t = 2 by omega) with rfl | rfl
  · exact c.2.2.2.1
  · exact c.2.2.2.2.1
theorem tS_eq {t : Nat} (h1 : 1 ≤ t) (ht : t < 3) : tS T t = prs T.2.2.2 T.1 (trT T t) := by
  rcases (show t = 1 ∨ t = 2 by omega) with rfl | rfl <;> rfl
theorem Mo_pairs (hv : VTs T) (hm : ModRel A I pn ps T K) {t : Nat} (h1 : 1 ≤ t) (ht : t < 3) : ∃ C, f_Mo_findPairs (Wd A I sw) 64 (nI t) = some (Wd C I sw) ∧ MPairs C t (tS T t) ∧ ModRel C I pn ps T K ∧ RFr A I C I := by
  obtain ⟨C, z1, z2, z3⟩ := Mo_findPairs (sw := sw) ht hm.2.1 (hm.tr ht) hv.1 (hv.tr t) hm.2.2.2.2.1 hv.2.2.2.2
  refine ⟨C, z1, by rw [tS_eq h1 ht]; exact z2, hm.kept (fun a ha => z3.1 a (by omega) (by omega) (by omega)) rfl rfl, fun a ha => z3.1 a (by omega) (by omega) (by omega), fun _ _ => rfl⟩
theorem op_origin (h : Inv A I sw) (x y : Int32) : Both A I sw (fun h => f_MF_origin h 0 x y) (fun h => f_Mo_origin h 64 x y) := by
  obtain ⟨pn, ps, T, K, hv, hc, hm⟩ := h
  have no : (x = nI 0 ∨ x < 0 ∨ nI 3 ≤ x) → Both A I sw (fun h => f_MF_origin h 0 x y) (fun h => f_Mo_origin h 64 x y) := by
    intro q
    refine Both.mk (x := -1) (B := A) (J := I) (C := A) (L := I) ?_ ?_ hv hc hm RFr.rf
    · unfold f_MF_origin
      rw [kk_0, MF_isSide_out q, sb, if_pos rfl]
    · unfold f_Mo_origin
      rw [kk_64, Mo_isSide_out q, sb, if_pos rfl]
  rcases tri x with ⟨t, ht, rfl⟩ | q
  · by_cases t0 : t = 0
    · exact no (Or.inl (by rw [t0]))
    · have h1 : 1 ≤ t := by omega
      rcases isFl (J := I) hc.2.1 (fun t ht => hm.tr ht) sw (nI t) y with ⟨e1, e2⟩ | ⟨u, i, hu, hi, eu, rfl, e1, e2⟩
      · refine Both.mk (x := -1) (B := A) (J := I) (C := A) (L := I) ?_ ?_ hv hc hm RFr.rf
        · unfold f_MF_origin
          rw [kk_0, MF_isSide_in h1 ht, sb, if_neg (show ¬ (1 : Int32) = 0 by decide), e1, sb, if_pos rfl]
        · unfold f_Mo_origin
          rw [kk_64, Mo_isSide_in h1 ht, sb, if_neg (show ¬ (1 : Int32) = 0 by decide), e2, sb, if_pos rfl]
      · have : t = u := (nI_eq (by omega) (by omega)).mp eu
        subst this
        obtain ⟨B, J, z1, z2, z3, z4⟩ := refresh_cls hv.2.1 hc
        obtain ⟨o, s1, s2, s3⟩ := MF_side (A := B) (I := J) (sw := sw) h1 ht
        have hm2 := z4.mod hm
        have hb := (hm2.tr ht).2.1
        obtain ⟨C, w1, w2, w3, w4⟩ := Mo_pairs (sw := sw) hv.2.1 hm2 h1 ht
        refine Both.mk (x := o2i ((tS T t).2.2 i)) ?_ ?_ hv z2 w3 w4
        · unfold f_MF_origin
          rw [kk_0, MF_isSide_in h1 ht, sb, if_neg (show ¬ (1 : Int32) = 0 by decide), e1, sb, if_neg (show ¬ (1 : Int32) = 0 by decide), z1, sb, s1, sb, s2, sb, Pairs_sourceOf (isP_p t) (z3.pairs h1 ht) (by omega), sb]
        · have e3 := Mo_isFile_in (A := B) (I := J) (sw := sw) ht (hm2.tr ht) hi
          unfold f_Mo_origin
          rw [kk_64, Mo_isSide_in h1 ht, sb, if_neg (show ¬ (1 : Int32) = 0 by decide), e3, sb, if_neg (show ¬ (1 : Int32) = 0 by decide), w1, sb, rr_64_13, sb, mix, ga_71 (by omega), sb, (w2 i (by omega)).2.2]
  · exact no (Or.inr q)
end O7
