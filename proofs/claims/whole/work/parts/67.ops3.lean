section O3
variable {A I : Nat → Nat → Int32} {sw : Bool}
theorem op_limit (h : Inv A I sw) (x : Int32) : Both A I sw (fun h => f_MF_limit h 0 x) (fun h => f_Mo_limit h 64 x) := by
  obtain ⟨pn, ps, T, K, hv, hc, hm⟩ := h
  have no : (x < (1 : Int32) ∨ ¬ x ≤ (100 : Int32)) → Both A I sw (fun h => f_MF_limit h 0 x) (fun h => f_Mo_limit h 64 x) := by
    intro q
    refine Both.mk (x := -2) (B := A) (J := I) (C := A) (L := I) ?_ ?_ hv hc hm RFr.rf
    · unfold f_MF_limit
      rw [kk_0]
      rcases q with q | q
      · rw [if_pos q]
      · by_cases q2 : x < (1 : Int32)
        · rw [if_pos q2]
        · rw [if_neg q2, if_neg q]
    · unfold f_Mo_limit
      rw [kk_64, inL x (1 : Int32) (100 : Int32) (a := 1) (b := 100) rfl rfl, if_neg, sb, if_pos rfl]
      rintro ⟨q1, q2⟩
      rcases q with q | q
      · exact absurd q1 (Int32.not_le.mpr q)
      · exact q q2
  rcases pk_ix x (n := 101) (by decide) with q | q | ⟨c, q1, q2⟩
  · refine no (Or.inl ?_)
    rw [Int32.lt_iff_toInt_lt] at q ⊢
    have e1 : (1 : Int32).toInt = 1 := by decide
    have e2 : (0 : Int32).toInt = 0 := rfl
    omega
  · refine no (Or.inr (fun z => ?_))
    rw [Int32.le_iff_toInt_le] at q z
    rw [nI_toInt (by decide)] at q
    have e1 : (100 : Int32).toInt = 100 := by decide
    omega
  · subst q2
    by_cases c0 : c = 0
    · exact no (Or.inl (by rw [c0]; decide))
    · have g1 : ¬ nI c < (1 : Int32) := fun z => by have := (lt1 (by omega)).mp z; omega
      have g2 : nI c ≤ (100 : Int32) := (le100 (by omega)).mpr (by omega)
      have hin : f_Mo_in (nI c).toInt64 (1 : Int64) (100 : Int64) = some 1 := by
        rw [inN (a := 1) (b := 100) (lo := 1) (hi := 100) rfl rfl (by omega) (by decide) (by decide), if_pos ⟨by omega, by omega⟩]
      obtain ⟨k1, k2, k3, k4⟩ := id hc
      obtain ⟨m1, m2, m3, m4, m5, m6⟩ := id hm
      have eI : ∀ a, a ≠ 0 → a ≠ 3 → up2 (up2 I 3 3 (nI c)) 0 9 0 a = I a := fun a a1 a2 => (up2_fn a1).trans (up2_fn a2)
      refine Both.mk (x := nI T.2.2.2) (s2 := sw) (B := A) (J := up2 (up2 I 3 3 (nI c)) 0 9 0) (C := A) (L := up2 (up2 (up2 I 3 3 (nI c)) 0 9 0) 64 3 (nI c)) (pn := pn) (ps := ps) (T := (T.1, T.2.1, T.2.2.1, c)) (K := K) ?_ ?_ ⟨hv.1, ⟨hv.2.1.1, hv.2.1.2.1, hv.2.1.2.2.1, by show 1 ≤ c; omega, by show c ≤ 100; omega⟩, hv.2.2⟩ ⟨?_, ⟨?_, ?_, ?_, ?_⟩, ?_, Or.inl (up2_s _ _ _ _)⟩ ?_ ⟨fun _ _ => rfl, fun a ha => up2_fn (by omega)⟩
      · unfold f_MF_limit
        rw [kk_0, if_neg g1, if_pos g2, rr_0_1, sb, gg_3_3, sb, sb, ss_3_3, sb, ss_0_9, sb, k2.2.2.2]
      · unfold f_Mo_limit
        rw [kk_64, hin, sb, if_neg (show ¬ (1 : Int32) = 0 by decide), gg_64_3, sb, ss_64_3, sb, eI 64 (by decide) (by decide), m5]
      · unfold PadC at k1 ⊢
        rw [eI 1 (by decide) (by decide)]
        exact k1
      · exact k2.1.kept (eI 4 (by decide) (by decide)) rfl rfl
      · exact k2.2.1.kept (eI _ (by cases sw <;> decide) (by cases sw <;> decide)) rfl rfl
      · exact k2.2.2.1.kept (eI _ (by cases sw <;> decide) (by cases sw <;> decide)) rfl rfl
      · rw [up2_n (by decide), up2_s]
      · exact k3.kept (fun _ _ _ => rfl) (fun a ha _ => eI a (by omega) (by omega))
      · refine ⟨?_, m2, m3, m4, up2_s _ _ _ _, m6⟩
        unfold PadM at m1 ⊢
        rw [up2_m (by decide), eI 64 (by decide) (by decide)]
        exact m1
theorem Mo_put_run {pn : Nat} {ps : Nat → Nat} {T : Trs} {K : Nat → Option Trs} (hv : Val pn ps T K) (hm : ModRel A I pn ps T K) {t : Nat} (ht : t < 3) (hf : flt ps pn = none) : ∃ L1, SF I L1 ∧ L1 64 9 = nI (contN (sg ps pn)) ∧ (f_Mo_put (Wd A I sw) 64 (nI t) = (if (if isThere (trT T t) (pathN (sg ps pn)) = true then (1 : Int32) else (0 : Int32)) = (0 : Int32) then (if nI (trT T t).1 = (12 : Int32) then some ((-4 : Int32), Wd A L1 sw) else f_Mo_put_90 (Wd A L1 sw) 64 (nI t) (nI (pathN (sg ps pn))) (nI (pos (trT T t) (pathN (sg ps pn)))) (if isThere (trT T t) (pathN (sg ps pn)) = true then 1 else 0)) else f_Mo_put_90 (Wd A L1 sw) 64 (nI t) (nI (pathN (sg ps pn))) (nI (pos (trT T t) (pathN (sg ps pn)))) (if isThere (trT T t) (pathN (sg ps pn)) = true then 1 else 0))) := by
  obtain ⟨L1, z1, z2, z3⟩ := Mo_fault (sw := sw) hm.1 hv.1
  obtain ⟨f6, f8, f9⟩ := z3 hf
  have hvp := pathN_v hf
  have hpl := vP_lt hvp
  have hMT := hm.tr ht
  have hVT := hv.2.1.tr t
  have hb := hMT.2.1
  obtain ⟨ps1, ps2, ps3⟩ := pos_spec hVT (pathN (sg ps pn))
  have ep : (10 : Int32) * nI (fldN (sg ps pn) (lets (sg ps pn))) + nI (sg ps pn (lets (sg ps pn)) - 97) = nI (pathN (sg ps pn)) := by
    unfold pathN
    rw [show (10 : Int32) * nI (fldN (sg ps pn) (lets (sg ps pn))) = nI (10 * fldN (sg ps pn) (lets (sg ps pn))) from pk_mul 10 _, nI_add]
  have efl : ((if nI (trT T t).1 ≤ nI (pos (trT T t) (pathN (sg ps pn))) then some (0 : Int32) else (gA (Wd A L1 sw) false 65 (((12 : Int32) * nI t) + nI (pos (trT T t) (pathN (sg ps pn))))).bind fun t10 => if t10 = nI (pathN (sg ps pn)) then some (1 : Int32) else some (0 : Int32)) : Option Int32) = some (if isThere (trT T t) (pathN (sg ps pn)) = true then 1 else 0) := by
    rw [ifc (nI_leI (by omega) (by omega))]
    by_cases c1 : (trT T t).1 ≤ pos (trT T t) (pathN (sg ps pn))
    · rw [if_pos c1, if_neg]
      intro q
      have := (of_decide_eq_true q).1
      omega
    · have hpp := hVT.p (i := pos (trT T t) (pathN (sg ps pn))) (by omega)
      rw [if_neg c1, mix, Mo_path ht hMT (by omega), sb, ifc (nI_eq (by omega) (by omega))]
      by_cases c2 : (trT T t).2.1 (pos (trT T t) (pathN (sg ps pn))) = pathN (sg ps pn)
      · rw [if_pos c2, if_pos (show isThere (trT T t) (pathN (sg ps pn)) = true from decide_eq_true ⟨by omega, c2⟩)]
      · rw [if_neg c2, if_neg (fun q => c2 (of_decide_eq_true q).2)]
  refine ⟨L1, z2, f9, ?_⟩
  unfold f_Mo_put
  rw [kk_64, Mo_isTree_in ht, sb, if_neg (show ¬ (1 : Int32) = 0 by decide), z1, sb]
  dsimp only
  rw [hf, o2i_n, if_pos m6_lt0, gg_64_6, sb, gg_64_8, sb, f6, f8, ep, Mo_placeOf ht hMT hVT (by omega), sb, rr_64_2, sb, ga_67 ht, sb, hMT.1, rr_64_0, sb, efl, sb, sb, ga_67 ht, sb, hMT.1]
/-- the reference puts the file that the pad tells -/
theorem Mo_put_in {pn : Nat} {ps : Nat → Nat} {T : Trs} {K : Nat → Option Trs} (hv : Val pn ps T K) (hm : ModRel A I pn ps T K) {t : Nat} (ht : t < 3) (hf : flt ps pn = none) (hroom : isThere (trT T t) (pathN (sg ps pn)) = true ∨ (trT T t).1 < 12) : ∃ C L, f_Mo_put (Wd A I sw) 64 (nI t) = some (nI (layT (trT T t) (pathN (sg ps pn)) (contN (sg ps pn))).1, Wd C L sw) ∧ ModRel C L 0 ps (setT T t (layT (trT T t) (pathN (sg ps pn)) (contN (sg ps pn)))) K ∧ RFr A I C L := by
  obtain ⟨L1, z2, f9, run⟩ := Mo_put_run (sw := sw) hv hm ht hf
  have hMT := hm.tr ht
  have hVT := hv.2.1.tr t
  have hb := hMT.2.1
  have hpl := vP_lt (pathN_v hf)
  obtain ⟨ps1, ps2, ps3⟩ := pos_spec hVT (pathN (sg ps pn))
  -- the end of both ways
  have fin : ∀ (C : Nat → Nat → Int32) (X' : Tre), MFr t A C → MTree C t X' → ModRel C (up2 L1 64 5 0) 0 ps (setT T t X') K ∧ RFr A I C (up2 L1 64 5 0) := by
    intro C X' hF hX'
    obtain ⟨r1, r2⟩ := hm.set ht hF hX'
    obtain ⟨m1, m2, m3, m4, m5, m6⟩ := r1
    refine ⟨⟨⟨up2_s _ _ _ _, by omega, fun i hi => by omega⟩, m2, m3, m4, ?_, m6⟩, r2.1, fun a ha => (up2_fn (by omega)).trans (z2.1 a (by omega))⟩
    rw [up2_m (by decide), z2.2 3 (by decide)]
    exact m5
  have e67 : ∀ (C : Nat → Nat → Int32) (X' : Tre), MTree C t X' → (sI (Wd C L1 sw) 9 64 5 (0 : Int32)).bind (fun h17 => (gR h17 9 64 2).bind fun t18 => (gA h17 false t18 (nI t)).bind fun t19 => some (t19, h17)) = some (nI X'.1, Wd C (up2 L1 64 5 0) sw) := by
    intro C X' hX'
    rw [ss_64_5, sb, rr_64_2, sb, ga_67 ht, sb, hX'.1]
  by_cases th : isThere (trT T t) (pathN (sg ps pn)) = true
  · have hth := of_decide_eq_true th
    have hlay : layT (trT T t) (pathN (sg ps pn)) (contN (sg ps pn)) = ((trT T t).1, (trT T t).2.1, fun j => if j = pos (trT T t) (pathN (sg ps pn)) then contN (sg ps pn) else (trT T t).2.2 j) := by unfold layT; rw [if_pos th]
    have hX' : MTree (up2 A 66 (12 * t + pos (trT T t) (pathN (sg ps pn))) (nI (contN (sg ps pn)))) t (layT (trT T t) (pathN (sg ps pn)) (contN (sg ps pn))) := by
      rw [hlay]
      refine ⟨(up2_n (by decide)).trans hMT.1, hb, fun i hi => ⟨(up2_n (by decide)).trans (hMT.2.2 i hi).1, ?_⟩⟩
      rw [up2_at]
      dsimp only
      by_cases c : i = pos (trT T t) (pathN (sg ps pn))
      · rw [if_pos (by omega), if_pos c]
      · rw [if_neg (by omega), if_neg c]; exact (hMT.2.2 i hi).2
    have hF : MFr t A (up2 A 66 (12 * t + pos (trT T t) (pathN (sg ps pn))) (nI (contN (sg ps pn)))) := ⟨fun a _ a2 _ => up2_fn a2, fun j hj => ⟨up2_n (by decide), up2_m (by omega)⟩, fun j _ => up2_n (by decide)⟩
    obtain ⟨r1, r2⟩ := fin _ _ hF hX'
    refine ⟨_, _, ?_, r1, r2⟩
    rw [run, if_pos th, if_neg (show ¬ (1 : Int32) = 0 by decide)]
    unfold f_Mo_put_90
    rw [if_neg (show ¬ (1 : Int32) = 0 by decide), rr_64_1, sb, gg_64_9, sb, f9, mix, sa_66 (by omega), sb, sb]
    exact e67 _ _ hX'
  · have hn12 : (trT T t).1 < 12 := by
      rcases hroom with q | q
      · exact absurd q th
      · exact q
    have hlay : layT (trT T t) (pathN (sg ps pn)) (contN (sg ps pn)) = ((trT T t).1 + 1, (fun j => if j < pos (trT T t) (pathN (sg ps pn)) then (trT T t).2.1 j else if j = pos (trT T t) (pathN (sg ps pn)) then pathN (sg ps pn) else (trT T t).2.1 (j - 1)), fun j => if j < pos (trT T t) (pathN (sg ps pn)) then (trT T t).2.2 j else if j = pos (trT T t) (pathN (sg ps pn)) then contN (sg ps pn) else (trT T t).2.2 (j - 1)) := by unfold layT; rw [if_neg th]
    obtain ⟨C, w1, w2, w3, w4⟩ := Mo_layAt (I := L1) (sw := sw) (p := pathN (sg ps pn)) (c := contN (sg ps pn)) ht hMT hn12 ps1
    have hX' : MTree C t (layT (trT T t) (pathN (sg ps pn)) (contN (sg ps pn))) := by
      rw [hlay]
      exact ⟨w3, by show (trT T t).1 + 1 ≤ 12; omega, w4⟩
    obtain ⟨r1, r2⟩ := fin _ _ w2 hX'
    refine ⟨_, _, ?_, r1, r2⟩
    rw [run, if_neg th, if_pos rfl, ifc (eq12 (by omega)), if_neg (by omega)]
    unfold f_Mo_put_90
    rw [if_pos rfl, gg_64_9, sb, f9, w1, sb, sb]
    exact e67 _ _ hX'
theorem flt_lt {ps : Nat → Nat} {pn k : Nat} (h : flt ps pn = some k) : k < 2 ^ 31 := by
  have h1 := lets_le (sg ps pn)
  have h2 := figs_le (sg ps pn)
  unfold flt at h
  repeat' split at h
  all_goals cases h
  all_goals omega
theorem SF.mod {I' : Nat → Nat → Int32} {pn : Nat} {ps : Nat → Nat} {T : Trs} {K : Nat → Option Trs} (z2 : SF I I') (hm : ModRel A I pn ps T K) : ModRel A I' pn ps T K ∧ RFr A I A I' := by
  obtain ⟨m1, m2, m3, m4, m5, m6⟩ := hm
  exact ⟨⟨m1.sf z2, m2, m3, m4, (z2.2 3 (by decide)).trans m5, m6⟩, fun _ _ => rfl, fun a ha => z2.1 a (by omega)⟩
theorem op_put (h : Inv A I sw) (x : Int32) : Both A I sw (fun h => f_MF_put h 0 x) (fun h => f_Mo_put h 64 x) := by
  obtain ⟨pn, ps, T, K, hv, hc, hm⟩ := h
  rcases tri x with ⟨t, ht, rfl⟩ | q
  · cases hf : flt ps pn with
    | some k =>
      obtain ⟨L1, z1, z2, z3⟩ := Mo_fault (sw := sw) hm.1 hv.1
      obtain ⟨r1, r2⟩ := z2.mod hm
      refine Both.mk (x := -5) (B := A) (J := I) (C := A) (L := L1) ?_ ?_ hv hc r1 r2
      · unfold f_MF_put
        rw [kk_0, MF_isTree_in ht, sb, if_neg (show ¬ (1 : Int32) = 0 by decide), rr_0_0, sb, Pad_firstWrong hc.1 hv.1, sb, hf, o2i_s, if_neg (nI_ne6 (flt_lt hf))]
      · unfold f_Mo_put
        rw [kk_64, Mo_isTree_in ht, sb, if_neg (show ¬ (1 : Int32) = 0 by decide), z1, sb]
        dsimp only
        rw [hf, o2i_s, if_neg (neg_lt0 (flt_lt hf))]
    | none =>
      have hvp := pathN_v hf
      by_cases room : isThere (trT T t) (pathN (sg ps pn)) = true ∨ (trT T t).1 < 12
      · obtain ⟨B, J, y1, y2, y3⟩ := Tree_lay (sw := sw) (c := contN (sg ps pn)) (isTr sw t) (hc.2.1.tr t) (hv.2.1.tr t) hvp room
        have hrr := trR_in sw t
        have hcl : f_Pad_clear (Wd B J sw) 1 = some (Wd B (up2 J 1 1 0) sw) := by
          unfold f_Pad_clear
          rw [kk_1, ss_1_1, sb]
        obtain ⟨q1, q2⟩ := hc.set ht y3 y2
        have q1' : ClsRel B (up2 (up2 J 1 1 0) 0 9 0) sw 0 ps (setT T t (layT (trT T t) (pathN (sg ps pn)) (contN (sg ps pn)))) K := by
          have gf : GFr B (up2 J 0 9 0) B (up2 (up2 J 1 1 0) 0 9 0) := ⟨fun _ _ _ => rfl, fun a ha _ => by rw [up2_fn (show a ≠ 0 by omega), up2_fn (show a ≠ 1 by omega), up2_fn (show a ≠ 0 by omega)]⟩
          exact gf.pad q1 (by rw [up2_s, up2_s]) ⟨by rw [up2_n (by decide), up2_s]; rfl, by omega, fun i hi => by omega⟩
        have q2' : CFr A I B (up2 (up2 J 1 1 0) 0 9 0) := ⟨q2.1, fun a ha => by
          have := q2.2 a ha
          rw [up2_fn (show a ≠ 0 by omega)] at this ⊢
          rw [up2_fn (show a ≠ 1 by omega)]
          exact this⟩
        have hm2 := q2'.mod hm
        obtain ⟨C, L, w1, w2, w3⟩ := Mo_put_in (sw := sw) hv hm2 ht hf room
        refine Both.mk ?_ w1 ⟨⟨by omega, fun i hi => by omega⟩, hv.2.1.set ht (layT_V (hv.2.1.tr t) hvp (contN_v _) room), hv.2.2⟩ q1' w2 w3
        have hT : TreeIs B (up2 (up2 J 1 1 0) 0 9 0) (trR sw t) (layT (trT T t) (pathN (sg ps pn)) (contN (sg ps pn))) := y2.kept (by rw [up2_fn (by omega), up2_fn (by omega)]) rfl rfl
        unfold f_MF_put
        rw [kk_0, MF_isTree_in ht, sb, if_neg (show ¬ (1 : Int32) = 0 by decide), rr_0_0, sb, Pad_firstWrong hc.1 hv.1, sb, hf, o2i_n, if_pos rfl, MF_treeOf ht, sb, sb, Pad_readPath hc.1 hv.1 hf, sb, sb, Pad_readContent hc.1 hv.1, sb, y1, sb]
        dsimp only
        rw [if_neg (show ¬ (1 : Int32) = 0 by decide), rr_0_0, sb, hcl, sb, ss_0_9, sb, MF_treeOf ht, sb, Tree_size (isTr sw t) hT, sb]
      · have y1 := Tree_lay_full (sw := sw) (c := contN (sg ps pn)) (isTr sw t) (hc.2.1.tr t) (hv.2.1.tr t) hvp room
        obtain ⟨L1, z2, f9, run⟩ := Mo_put_run (sw := sw) hv hm ht hf
        obtain ⟨r1, r2⟩ := z2.mod hm
        have hb := (hm.tr ht).2.1
        have th : ¬ isThere (trT T t) (pathN (sg ps pn)) = true := fun q => room (Or.inl q)
        have n12 : (trT T t).1 = 12 := by
          by_cases q : (trT T t).1 < 12
          · exact absurd (Or.inr q) room
          · omega
        refine Both.mk (x := -4) (B := A) (J := I) (C := A) (L := L1) ?_ ?_ hv hc r1 r2
        · unfold f_MF_put
          rw [kk_0, MF_isTree_in ht, sb, if_neg (show ¬ (1 : Int32) = 0 by decide), rr_0_0, sb, Pad_firstWrong hc.1 hv.1, sb, hf, o2i_n, if_pos rfl, MF_treeOf ht, sb, sb, Pad_readPath hc.1 hv.1 hf, sb, sb, Pad_readContent hc.1 hv.1, sb, y1, sb]
          dsimp only
          rw [if_pos rfl]
        · rw [run, if_neg th, if_pos rfl, n12, if_pos (by decide)]
  · refine Both.mk (x := -1) (B := A) (J := I) (C := A) (L := I) ?_ ?_ hv hc hm RFr.rf
    · unfold f_MF_put
      rw [kk_0, MF_isTree_out q, sb, if_pos rfl]
    · unfold f_Mo_put
      rw [kk_64, Mo_isTree_out q, sb, if_pos rfl]
end O3
