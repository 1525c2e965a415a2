-- ===== operations that find nothing =====
def trT (T : Trs) (t : Nat) : Tre := if t = 0 then T.1 else if t = 1 then T.2.1 else T.2.2.1
def trR (sw : Bool) (t : Nat) : Nat := if t = 0 then 4 else if t = 1 then RF sw 3 1 else RF sw 3 2
theorem isTr (sw : Bool) (t : Nat) : isT (trR sw t) = true := by
  unfold trR
  split
  · decide
  · split
    · exact isT1 sw
    · exact isT2 sw
theorem HC.tr {A I : Nat → Nat → Int32} {sw : Bool} {T : Trs} (h : HC A I sw T) (t : Nat) : TreeIs A I (trR sw t) (trT T t) := by
  unfold trR trT
  split
  · exact h.1
  · split
    · exact h.2.1
    · exact h.2.2.1
theorem ModRel.tr {A I : Nat → Nat → Int32} {pn : Nat} {ps : Nat → Nat} {T : Trs} {K : Nat → Option Trs} (h : ModRel A I pn ps T K) {t : Nat} (ht : t < 3) : MTree A t (trT T t) := by
  rcases (show t = 0 ∨ t = 1 ∨ t = 2 by omega) with rfl | rfl | rfl
  · exact h.2.1
  · exact h.2.2.1
  · exact h.2.2.2.1
theorem VTs.tr {T : Trs} (h : VTs T) (t : Nat) : VT (trT T t) := by
  unfold trT
  split
  · exact h.1
  · split
    · exact h.2.1
    · exact h.2.2.1
section O1
variable {A I : Nat → Nat → Int32} {sw : Bool} {pn : Nat} {ps : Nat → Nat} {T : Trs} {K : Nat → Option Trs}
theorem MF_treeOf {t : Nat} (ht : t < 3) : f_MF_treeOf (Wd A I sw) 0 (nI t) = some (trR sw t) := by
  unfold f_MF_treeOf
  rcases (show t = 0 ∨ t = 1 ∨ t = 2 by omega) with rfl | rfl | rfl
  · rw [kk_0, if_pos (show nI 0 = (0 : Int32) from rfl), rr_0_1, sb, rr_3_0, sb, sb]; rfl
  · rw [kk_0, if_neg (show ¬ nI 1 = (0 : Int32) by decide), if_pos (show nI 1 = (1 : Int32) from rfl), rr_0_1, sb, rr_3_1, sb, sb]; rfl
  · rw [kk_0, if_neg (show ¬ nI 2 = (0 : Int32) by decide), if_neg (show ¬ nI 2 = (1 : Int32) by decide), rr_0_1, sb, rr_3_2, sb, sb]; rfl
/-- a file or none, for both -/
theorem isFl (hc : HC A I sw T) {B J : Nat → Nat → Int32} (hm : ∀ t, t < 3 → MTree B t (trT T t)) (s2 : Bool) (x y : Int32) : (f_MF_isFile (Wd A I sw) 0 x y = some 0 ∧ f_Mo_isFile (Wd B J s2) 64 x y = some 0) ∨ ∃ t i, t < 3 ∧ i < (trT T t).1 ∧ x = nI t ∧ y = nI i ∧ f_MF_isFile (Wd A I sw) 0 x y = some 1 ∧ f_Mo_isFile (Wd B J s2) 64 x y = some 1 := by
  rcases tri x with ⟨t, ht, rfl⟩ | h
  · have hT := hc.tr t
    have hM := hm t ht
    have hb := hM.2.1
    rcases pk_ix y (n := (trT T t).1) (by omega) with h | h | ⟨i, h1, h2⟩
    · refine Or.inl ⟨?_, Mo_isFile_out ht hM (Or.inl h)⟩
      unfold f_MF_isFile
      rw [kk_0, MF_isTree_in ht, sb, if_neg (by decide), MF_treeOf ht, sb, Tree_has_out (isTr sw t) hT (Or.inl h), sb, if_pos rfl, sb, rz_0]
    · refine Or.inl ⟨?_, Mo_isFile_out ht hM (Or.inr h)⟩
      unfold f_MF_isFile
      rw [kk_0, MF_isTree_in ht, sb, if_neg (by decide), MF_treeOf ht, sb, Tree_has_out (isTr sw t) hT (Or.inr h), sb, if_pos rfl, sb, rz_0]
    · subst h2
      refine Or.inr ⟨t, i, ht, h1, rfl, rfl, ?_, Mo_isFile_in ht hM h1⟩
      unfold f_MF_isFile
      rw [kk_0, MF_isTree_in ht, sb, if_neg (by decide), MF_treeOf ht, sb, Tree_has_in (isTr sw t) hT h1, sb, if_neg (by decide), sb, rz_1]
  · refine Or.inl ⟨?_, Mo_isFile_no h⟩
    unfold f_MF_isFile
    rw [kk_0, MF_isTree_out h, sb, if_pos rfl, sb, rz_0]
theorem op_file (h : Inv A I sw) (x y z : Int32) : ∃ a, f_MF_file (Wd A I sw) 0 x y z = some a ∧ f_Mo_file (Wd A I sw) 64 x y z = some a := by
  obtain ⟨pn, ps, T, K, hv, hc, hm⟩ := h
  rcases isFl (J := I) hc.2.1 (fun t ht => hm.tr ht) sw x y with ⟨e1, e2⟩ | ⟨t, i, ht, hi, rfl, rfl, e1, e2⟩
  · refine ⟨-1, ?_, ?_⟩
    · unfold f_MF_file
      rw [kk_0, e1, sb, if_pos rfl]
    · unfold f_Mo_file
      rw [kk_64, e2, sb, if_pos rfl]
  · refine ⟨if z = (0 : Int32) then nI ((trT T t).2.1 i) else if z = (1 : Int32) then nI ((trT T t).2.2 i) else (-2 : Int32), ?_, ?_⟩
    · unfold f_MF_file
      rw [kk_0, e1, sb, if_neg (show ¬ (1 : Int32) = 0 by decide), MF_treeOf ht, sb, Tree_pathAt (isTr sw t) (hc.2.1.tr t) hi, sb, sb, Tree_contentAt (isTr sw t) (hc.2.1.tr t) hi, sb]
      by_cases c1 : z = (0 : Int32)
      · rw [if_pos c1, if_pos c1]
      · by_cases c2 : z = (1 : Int32)
        · rw [if_neg c1, if_pos c2, if_neg c1, if_pos c2]
        · rw [if_neg c1, if_neg c2, if_neg c1, if_neg c2]
    · unfold f_Mo_file
      rw [kk_64, e2, sb, if_neg (show ¬ (1 : Int32) = 0 by decide), rr_64_0, sb, mix, Mo_path ht (hm.tr ht) hi, sb, Mo_contentAt ht (hm.tr ht) hi, sb]
      by_cases c1 : z = (0 : Int32)
      · rw [if_pos c1, if_pos c1, sb]
      · by_cases c2 : z = (1 : Int32)
        · rw [if_neg c1, if_pos c2, if_neg c1, if_pos c2, sb]
        · rw [if_neg c1, if_neg c2, if_neg c1, if_neg c2, sb]
theorem op_alike (h : Inv A I sw) (x y z w : Int32) : ∃ a, f_MF_alike (Wd A I sw) 0 x y z w = some a ∧ f_Mo_alike (Wd A I sw) 64 x y z w = some a := by
  obtain ⟨pn, ps, T, K, hv, hc, hm⟩ := h
  unfold f_MF_alike f_Mo_alike
  rw [kk_0, kk_64]
  rcases isFl (J := I) hc.2.1 (fun t ht => hm.tr ht) sw x y with ⟨e1, e2⟩ | ⟨t, i, ht, hi, rfl, rfl, e1, e2⟩
  · rw [e1, sb, if_pos rfl, e2, sb, if_pos rfl, sb]
    exact ⟨_, rfl, rfl⟩
  · rw [e1, sb, if_neg (by decide), e2, sb, if_neg (by decide)]
    rcases isFl (J := I) hc.2.1 (fun t ht => hm.tr ht) sw z w with ⟨g1, g2⟩ | ⟨u, j, hu, hj, rfl, rfl, g1, g2⟩
    · rw [g1, sb, if_pos rfl, g2, sb, if_pos rfl, sb]
      exact ⟨_, rfl, rfl⟩
    · have c1 := ((hv.2.1.tr t).2.1 i hi).2
      have c2 := ((hv.2.1.tr u).2.1 j hj).2
      rw [g1, sb, if_neg (by decide), g2, sb, if_neg (by decide), MF_treeOf ht, sb, Tree_contentAt (isTr sw t) (hc.2.1.tr t) hi, sb, MF_treeOf hu, sb, Tree_contentAt (isTr sw u) (hc.2.1.tr u) hj, sb, likeness c1 c2, sb, Mo_contentAt ht (hm.tr ht) hi, sb, Mo_contentAt hu (hm.tr hu) hj, sb, Mo_alikeOf c1 c2, sb, sb]
      exact ⟨_, rfl, rfl⟩
theorem op_fault (h : Inv A I sw) : ∃ a C L, f_MF_fault (Wd A I sw) 0 = some a ∧ f_Mo_fault (Wd A I sw) 64 = some (a, Wd C L sw) ∧ Inv C L sw := by
  obtain ⟨pn, ps, T, K, hv, hc, hm⟩ := h
  obtain ⟨L, z1, z2, z3⟩ := Mo_fault (sw := sw) hm.1 hv.1
  refine ⟨o2i (flt ps pn), A, L, ?_, z1, pn, ps, T, K, hv, RFr.cls ⟨fun _ _ => rfl, fun a ha => z2.1 a (by omega)⟩ hc, ?_⟩
  · unfold f_MF_fault
    rw [kk_0, rr_0_0, sb, Pad_firstWrong hc.1 hv.1, sb]
  · obtain ⟨m1, m2, m3, m4, m5, m6⟩ := hm
    exact ⟨m1.sf z2, m2, m3, m4, (z2.2 3 (by decide)).trans m5, m6⟩
theorem op_wipe (h : Inv A I sw) : Both A I sw (fun h => f_MF_wipe h 0) (fun h => f_Mo_wipe h 64) := by
  obtain ⟨pn, ps, T, K, hv, hc, hm⟩ := h
  obtain ⟨c1, c2, c3, c4⟩ := id hc
  refine Both.mk (x := nI pn) (B := A) (J := up2 I 1 1 0) (C := A) (L := up2 (up2 I 1 1 0) 64 5 0) (pn := 0) (ps := ps) (T := T) (K := K) ?_ ?_ ⟨⟨by omega, fun i hi => by omega⟩, hv.2⟩ (GFr.pad ⟨fun _ _ _ => rfl, fun a ha _ => up2_fn (by omega)⟩ hc (up2_n (by decide)) ⟨up2_s _ _ _ _, by omega, fun i hi => by omega⟩) ?_ ⟨fun _ _ => rfl, fun a ha => up2_fn (by omega)⟩
  · unfold f_MF_wipe f_Pad_size f_Pad_clear
    rw [kk_0, rr_0_0, sb, kk_1, gg_1_1, sb, sb, c1.1, sb, kk_1, ss_1_1, sb, sb]
  · unfold f_Mo_wipe
    rw [kk_64, gg_64_5, sb, up2_n (by decide), hm.1.1, ss_64_5, sb]
  · obtain ⟨m1, m2, m3, m4, m5, m6⟩ := hm
    exact ⟨⟨up2_s _ _ _ _, by omega, fun i hi => by omega⟩, m2, m3, m4, by rw [up2_m (by decide), up2_n (by decide)]; exact m5, m6⟩
theorem op_say (h : Inv A I sw) (x : Int32) : Both A I sw (fun h => f_MF_say h 0 x) (fun h => f_Mo_say h 64 x) := by
  obtain ⟨pn, ps, T, K, hv, hc, hm⟩ := h
  obtain ⟨c1, c2, c3, c4⟩ := id hc
  have hpn := c1.2.1
  have no : (x < (33 : Int32) ∨ ¬ x ≤ (126 : Int32)) → Both A I sw (fun h => f_MF_say h 0 x) (fun h => f_Mo_say h 64 x) := by
    intro q
    refine Both.mk (x := -2) (B := A) (J := I) (C := A) (L := I) ?_ ?_ hv hc hm RFr.rf
    · unfold f_MF_say
      rw [kk_0]
      rcases q with q | q
      · rw [if_pos q]
      · by_cases q2 : x < (33 : Int32)
        · rw [if_pos q2]
        · rw [if_neg q2, if_neg q]
    · unfold f_Mo_say
      rw [kk_64, inL x (33 : Int32) (126 : Int32) (a := 33) (b := 126) rfl rfl, if_neg, sb, if_pos rfl]
      rintro ⟨q1, q2⟩
      rcases q with q | q
      · exact absurd q1 (Int32.not_le.mpr q)
      · exact q q2
  rcases pk_ix x (n := 127) (by decide) with q | q | ⟨c, q1, q2⟩
  · refine no (Or.inl ?_)
    rw [Int32.lt_iff_toInt_lt] at q ⊢
    have e1 : (33 : Int32).toInt = 33 := by decide
    have e2 : (0 : Int32).toInt = 0 := rfl
    omega
  · refine no (Or.inr (fun z => ?_))
    rw [Int32.le_iff_toInt_le] at q z
    rw [nI_toInt (by decide)] at q
    have e1 : (126 : Int32).toInt = 126 := by decide
    omega
  · subst q2
    by_cases c33 : c < 33
    · exact no (Or.inl ((nI_ltI (by omega) (by decide) : nI c < nI 33 ↔ c < 33).mpr c33))
    · have g1 : ¬ nI c < (33 : Int32) := fun z => c33 ((nI_ltI (by omega) (by decide) : nI c < nI 33 ↔ c < 33).mp z)
      have g2 : nI c ≤ (126 : Int32) := (nI_leI (by omega) (by decide) : nI c ≤ nI 126 ↔ c ≤ 126).mpr (by omega)
      have hin : f_Mo_in (nI c).toInt64 (33 : Int64) (126 : Int64) = some 1 := by
        rw [inN (a := 33) (b := 126) (lo := 33) (hi := 126) rfl rfl (by omega) (by decide) (by decide), if_pos ⟨by omega, by omega⟩]
      by_cases full : pn < 60
      · have hps : ∀ i, i < pn + 1 → 33 ≤ (fun i => if i = pn then c else ps i) i ∧ (fun i => if i = pn then c else ps i) i ≤ 126 := fun i hi => by
          dsimp only
          by_cases z : i = pn
          · rw [if_pos z]; omega
          · rw [if_neg z]; exact hv.1.2 i (by omega)
        refine Both.mk (x := nI (pn + 1)) (B := up2 A 2 pn (nI c)) (J := up2 I 1 1 (nI (pn + 1))) (C := up2 (up2 A 2 pn (nI c)) 68 pn (nI c)) (L := up2 (up2 I 1 1 (nI (pn + 1))) 64 5 (nI (pn + 1))) (pn := pn + 1) (ps := fun i => if i = pn then c else ps i) (T := T) (K := K) ?_ ?_ ⟨⟨by omega, hps⟩, hv.2⟩ (GFr.pad ⟨fun a ha _ => up2_fn (by omega), fun a ha _ => up2_fn (by omega)⟩ hc (up2_n (by decide)) ⟨up2_s _ _ _ _, by omega, fun i hi => ?_⟩) ?_ ⟨fun a ha => up2_fn (by omega), fun a ha => up2_fn (by omega)⟩
        · unfold f_MF_say f_Pad_add f_Pad_size
          rw [kk_0, if_neg g1, if_pos g2, rr_0_0, sb, kk_1, gg_1_1, sb, c1.1, ifc (lt60 (by omega)), if_pos full, rr_1_0, sb, sb, sa_2 (by omega), sb, gg_1_1, sb, c1.1, add1, ss_1_1, sb, rz_1, sb, sb]
          dsimp only
          rw [if_neg (show ¬ (1 : Int32) = 0 by decide), rr_0_0, sb, kk_1, gg_1_1, sb, up2_s, sb, sb]
        · unfold f_Mo_say
          rw [kk_64, hin, sb, if_neg (show ¬ (1 : Int32) = 0 by decide), gg_64_5, sb, up2_n (by decide), hm.1.1, ifc (eq60 (by omega)), if_neg (by omega), rr_64_4, sb, sb, sa_68 (by omega), sb, gg_64_5, sb, up2_n (by decide), hm.1.1, add1, ss_64_5, sb, gg_64_5, sb, up2_s]
        · dsimp only
          rw [up2_at]
          by_cases z : i = pn
          · rw [if_pos z, if_pos z]
          · rw [if_neg z, if_neg z]; exact c1.2.2 i (by omega)
        · obtain ⟨m1, m2, m3, m4, m5, m6⟩ := hm
          have fA : ∀ a, a ≠ 2 → a ≠ 68 → up2 (up2 A 2 pn (nI c)) 68 pn (nI c) a = A a := fun a a1 a2 => (up2_fn a2).trans (up2_fn a1)
          unfold ModRel PadM MTree KM KM1 ImM at *
          rw [fA 65 (by decide) (by decide), fA 66 (by decide) (by decide), fA 67 (by decide) (by decide), fA 79 (by decide) (by decide), fA 80 (by decide) (by decide)]
          refine ⟨⟨up2_s _ _ _ _, by omega, fun i hi => ?_⟩, m2, m3, m4, by rw [up2_m (by decide), up2_n (by decide)]; exact m5, m6⟩
          rw [up2_at]
          dsimp only
          by_cases z : i = pn
          · rw [if_pos z, if_pos z]
          · rw [if_neg z, if_neg z, up2_n (by decide)]; exact m1.2.2 i (by omega)
      · have hp60 : pn = 60 := by omega
        refine Both.mk (x := -4) (B := A) (J := I) (C := A) (L := I) ?_ ?_ hv hc hm RFr.rf
        · unfold f_MF_say f_Pad_add
          rw [kk_0, if_neg g1, if_pos g2, rr_0_0, sb, kk_1, gg_1_1, sb, c1.1, ifc (lt60 (by omega)), if_neg full, rz_0, sb, sb]
          dsimp only
          rw [if_pos rfl, sb]
        · unfold f_Mo_say
          rw [kk_64, hin, sb, if_neg (show ¬ (1 : Int32) = 0 by decide), gg_64_5, sb, hm.1.1, ifc (eq60 (by omega)), if_pos hp60]
end O1
