-- ===== told =====
section O17
variable {A I : Nat → Nat → Int32} {sw : Bool} {pn : Nat} {ps : Nat → Nat} {T : Trs} {K : Nat → Option Trs}
theorem stepN (x : Option Nat) (hx : ∀ j, x = some j → j < 2 ^ 31) (c : Nat) : nI c + (if o2i x = (-6 : Int32) then (1 : Int32) else (0 : Int32)) = nI (c + (if x.isNone = true then 1 else 0)) := by
  cases x with
  | none => rw [o2i_n, if_pos rfl, add1]; rfl
  | some j => rw [o2i_s, if_neg (nI_ne6 (hx j rfl)), show (0 : Int32) = nI 0 from rfl, nI_add]; rfl
theorem stepL (x : Option Nat) (hx : ∀ j, x = some j → j < 2 ^ 31) (c : Nat) : nI c + (if (0 : Int32) ≤ o2i x then (0 : Int32) else (1 : Int32)) = nI (c + (if x.isNone = true then 1 else 0)) := by
  cases x with
  | none => rw [o2i_n, if_neg (show ¬ (0 : Int32) ≤ (-6 : Int32) by decide), add1]; rfl
  | some j => rw [o2i_s, if_pos ((ge0 (hx j rfl)).mpr (Nat.zero_le _)), show (0 : Int32) = nI 0 from rfl, nI_add]; rfl
theorem stepM (x : Option Nat) (hx : ∀ j, x = some j → j < 2 ^ 31) (c : Nat) : nI c + (if o2i x < (0 : Int32) then (0 : Int32) else (1 : Int32)) = nI (c + (if x.isSome = true then 1 else 0)) := by
  cases x with
  | none => rw [o2i_n, if_pos m6_lt0, show (0 : Int32) = nI 0 from rfl, nI_add]; rfl
  | some j => rw [o2i_s, if_neg (neg_lt0 (hx j rfl)), add1]; rfl
theorem Pairs_countGone {p r : Nat} {s : Pst} {X : Tre} (hp : isP p = true) (hr : isT r = true) (h0 : TreeIs A I r X) (h : PairsIs A p s) (hw : ∀ i j, s.1 i = some j → j < 2 ^ 31) : f_Pairs_countGone (Wd A I sw) p r = some (nI (cnt (fun i => (s.1 i).isNone) X.1)) := by
  have hX := h0.2.1
  have key : ∀ (k i f : Nat), i + k = X.1 → k < f → f_Pairs_countGone_4 (Wd A I sw) p r f (nI (cnt (fun i => (s.1 i).isNone) i)) (nI i) = some (nI (cnt (fun i => (s.1 i).isNone) X.1)) := by
    intro k
    induction k with
    | zero =>
      intro i f e1 e2
      obtain ⟨f, rfl⟩ : ∃ g, f = g + 1 := ⟨f - 1, by omega⟩
      have hi : i = X.1 := by omega
      rw [f_Pairs_countGone_4, Tree_size hr h0, sb, hi, if_pos (Int32.le_refl _)]
    | succ k ih =>
      intro i f e1 e2
      obtain ⟨f, rfl⟩ : ∃ g, f = g + 1 := ⟨f - 1, by omega⟩
      have := ih (i + 1) f (by omega) (by omega)
      rw [cnt] at this
      rw [f_Pairs_countGone_4, Tree_size hr h0, sb, ifc (nI_leI (by omega) (by omega)), if_neg (by omega), Pairs_mateOf hp h (by omega), sb, stepN _ (hw i), add1]
      exact this
  unfold f_Pairs_countGone
  rw [P_ck hp]
  exact key X.1 0 FU (by omega) (by rw [FU_eq]; omega)
theorem Pairs_countNew {p r : Nat} {s : Pst} {X : Tre} (hp : isP p = true) (hr : isT r = true) (h0 : TreeIs A I r X) (h : PairsIs A p s) (hw : ∀ i j, s.2.2 i = some j → j < 2 ^ 31) : f_Pairs_countNew (Wd A I sw) p r = some (nI (cnt (fun i => (s.2.2 i).isNone) X.1)) := by
  have hX := h0.2.1
  have key : ∀ (k i f : Nat), i + k = X.1 → k < f → f_Pairs_countNew_4 (Wd A I sw) p r f (nI (cnt (fun i => (s.2.2 i).isNone) i)) (nI i) = some (nI (cnt (fun i => (s.2.2 i).isNone) X.1)) := by
    intro k
    induction k with
    | zero =>
      intro i f e1 e2
      obtain ⟨f, rfl⟩ : ∃ g, f = g + 1 := ⟨f - 1, by omega⟩
      have hi : i = X.1 := by omega
      rw [f_Pairs_countNew_4, Tree_size hr h0, sb, hi, if_pos (Int32.le_refl _)]
    | succ k ih =>
      intro i f e1 e2
      obtain ⟨f, rfl⟩ : ∃ g, f = g + 1 := ⟨f - 1, by omega⟩
      have := ih (i + 1) f (by omega) (by omega)
      rw [cnt] at this
      rw [f_Pairs_countNew_4, Tree_size hr h0, sb, ifc (nI_leI (by omega) (by omega)), if_neg (by omega), Pairs_sourceOf hp h (by omega), sb, stepN _ (hw i), add1]
      exact this
  unfold f_Pairs_countNew
  rw [P_ck hp]
  exact key X.1 0 FU (by omega) (by rw [FU_eq]; omega)
theorem Mo_lackingOf {a t n : Nat} {g : Nat → Option Nat} (hn : n ≤ 12) (h : ∀ i, i < n → gA (Wd A I sw) false a (nI (12 * t + i)) = some (o2i (g i))) (hg : ∀ i j, g i = some j → j < 2 ^ 31) : f_Mo_lackingOf (Wd A I sw) 64 a (nI t) (nI n) = some (nI (cnt (fun i => (g i).isNone) n)) := by
  have key : ∀ (k i f : Nat), i + k = n → k < f → f_Mo_lackingOf_6 (Wd A I sw) a (nI t) (nI n) f (nI (cnt (fun i => (g i).isNone) i)) (nI i) = some (nI (cnt (fun i => (g i).isNone) n)) := by
    intro k
    induction k with
    | zero =>
      intro i f e1 e2
      obtain ⟨f, rfl⟩ : ∃ g, f = g + 1 := ⟨f - 1, by omega⟩
      have hi : i = n := by omega
      rw [f_Mo_lackingOf_6, hi, if_pos (Int32.le_refl _)]
    | succ k ih =>
      intro i f e1 e2
      obtain ⟨f, rfl⟩ : ∃ g, f = g + 1 := ⟨f - 1, by omega⟩
      have := ih (i + 1) f (by omega) (by omega)
      rw [cnt] at this
      rw [f_Mo_lackingOf_6, ifc (nI_leI (by omega) (by omega)), if_neg (by omega), mix, h i (by omega), sb, stepL _ (hg i), add1]
      exact this
  unfold f_Mo_lackingOf
  rw [kk_64]
  exact key n 0 FU (by omega) (by rw [FU_eq]; omega)
theorem Mo_movedMany {t : Nat} (ht : t < 3) {g : Nat → Option Nat} (h : MMoves A t g) (hg : ∀ i j, g i = some j → j < 2 ^ 31) : f_Mo_movedMany (Wd A I sw) 64 (nI t) = some (nI (cnt (fun i => (g i).isSome) 445)) := by
  have key : ∀ (k i f : Nat), i + k = 445 → k < f → f_Mo_movedMany_4 (Wd A I sw) 64 (nI t) f (nI (cnt (fun i => (g i).isSome) i)) (nI i) = some (nI (cnt (fun i => (g i).isSome) 445)) := by
    intro k
    induction k with
    | zero =>
      intro i f e1 e2
      obtain ⟨f, rfl⟩ : ∃ g, f = g + 1 := ⟨f - 1, by omega⟩
      have hi : i = 445 := by omega
      subst hi
      rw [f_Mo_movedMany_4, if_pos (show (445 : Int32) ≤ nI 445 by decide)]
    | succ k ih =>
      intro i f e1 e2
      obtain ⟨f, rfl⟩ : ∃ g, f = g + 1 := ⟨f - 1, by omega⟩
      have := ih (i + 1) f (by omega) (by omega)
      rw [cnt] at this
      rw [f_Mo_movedMany_4, ifc (ge445 (by omega)), if_neg (by omega), rr_64_14, sb, mix5, ga_72 (by omega), sb, h i (by omega), stepM _ (hg i), add1]
      exact this
  unfold f_Mo_movedMany
  rw [kk_64]
  exact key 445 0 FU (by omega) (by rw [FU_eq]; omega)
def tl (T : Trs) (t q : Nat) : Nat := if q = 2 then cnt (fun i => ((tS T t).1 i).isNone) T.1.1 else if q = 3 then cnt (fun i => ((tS T t).2.2 i).isNone) (trT T t).1 else cnt (fun i => (tF T t i).isSome) 445
theorem tF_eq {t : Nat} (h1 : 1 ≤ t) (ht : t < 3) : tF T t = mv T.1 (trT T t) (prs T.2.2.2 T.1 (trT T t)) := by
  rcases (show t = 1 ∨ t = 2 by omega) with rfl | rfl <;> rfl
theorem Mo_toldOfSide (hv : VTs T) (hm : ModRel A I pn ps T K) {t q : Nat} (h1 : 1 ≤ t) (ht : t < 3) (h2 : 2 ≤ q) (h4 : q ≤ 4) : ∃ C, f_Mo_toldOfSide (Wd A I sw) 64 (nI t) (nI q) = some (nI (tl T t q), Wd C I sw) ∧ ModRel C I pn ps T K ∧ RFr A I C I := by
  obtain ⟨C, z1, z2, z3, z4⟩ := Mo_findMoves (sw := sw) ht hm.2.1 (hm.tr ht) hv.1 (hv.tr t) hm.2.2.2.2.1 hv.2.2.2.2
  rw [← tS_eq h1 ht] at z2
  rw [← tF_eq h1 ht] at z3
  have m2 : ModRel C I pn ps T K := hm.kept (fun a ha => z4.1 a (by omega) (by omega) (by omega) (by omega)) rfl rfl
  have wf := tS_WF (T := T) h1 ht
  have b0 := hv.1.1
  have b1 := (hv.tr t).1
  refine ⟨C, ?_, m2, fun a ha => z4.1 a (by omega) (by omega) (by omega) (by omega), fun _ _ => rfl⟩
  unfold f_Mo_toldOfSide tl
  rw [kk_64, z1, sb]
  rcases (show q = 2 ∨ q = 3 ∨ q = 4 by omega) with rfl | rfl | rfl
  · rw [if_pos (show nI 2 = (2 : Int32) from rfl), if_pos rfl, rr_64_11, sb, rr_64_2, sb, show (0 : Int32) = nI 0 from rfl, ga_67 (by decide), sb, m2.2.1.1, Mo_lackingOf (g := fun i => (tS T t).1 i) b0 (fun i hi => by rw [ga_69 (by omega)]; exact congrArg some (z2 i (by omega)).1) (fun i j e => by have := (wf.1 i j e).2; omega), sb, sb]
  · rw [if_neg (show ¬ nI 3 = (2 : Int32) by decide), if_pos (show nI 3 = (3 : Int32) from rfl), if_neg (by decide), if_pos rfl, rr_64_13, sb, rr_64_2, sb, ga_67 ht, sb, (m2.tr ht).1, Mo_lackingOf (g := fun i => (tS T t).2.2 i) b1 (fun i hi => by rw [ga_71 (by omega)]; exact congrArg some (z2 i (by omega)).2.2) (fun i j e => by have := (wf.2.1 i j e).1; omega), sb, sb]
  · rw [if_neg (show ¬ nI 4 = (2 : Int32) by decide), if_neg (show ¬ nI 4 = (3 : Int32) by decide), if_neg (by decide), if_neg (by decide), Mo_movedMany ht z3 (fun i j e => by have := (tF_v hv h1 ht i j e).1; omega), sb, sb]
theorem Mo_told_s (hv : VTs T) (hm : ModRel A I pn ps T K) {t q : Nat} (h1 : 1 ≤ t) (ht : t < 3) (h2 : 2 ≤ q) (h4 : q ≤ 4) : ∃ C, f_Mo_told (Wd A I sw) 64 (nI (10 * q + t)) = some (nI (tl T t q), Wd C I sw) ∧ ModRel C I pn ps T K ∧ RFr A I C I := by
  obtain ⟨C, z1, z2, z3⟩ := Mo_toldOfSide (sw := sw) hv hm h1 ht h2 h4
  refine ⟨C, ?_, z2, z3⟩
  unfold f_Mo_told
  rw [kk_64, inN (a := 10) (b := 12) (lo := 10) (hi := 12) rfl rfl (by omega) (by decide) (by decide), if_neg (by omega), sb, if_pos rfl, inN (a := 20) (b := 49) (lo := 20) (hi := 49) rfl rfl (by omega) (by decide) (by decide), if_pos (by omega), sb, if_neg (show ¬ (1 : Int32) = 0 by decide), rem10 (by omega), div10 (by omega), show (10 * q + t) % 10 = t by omega, show (10 * q + t) / 10 = q by omega, Mo_isSide_in h1 ht, sb, if_neg (show ¬ (1 : Int32) = 0 by decide), z1, sb]
theorem Mo_told_t (hm : ModRel A I pn ps T K) {t : Nat} (ht : t < 3) : f_Mo_told (Wd A I sw) 64 (nI (10 + t)) = some (nI (trT T t).1, Wd A I sw) := by
  unfold f_Mo_told
  rw [kk_64, inN (a := 10) (b := 12) (lo := 10) (hi := 12) rfl rfl (by omega) (by decide) (by decide), if_pos (by omega), sb, if_neg (show ¬ (1 : Int32) = 0 by decide), rr_64_2, sb, show nI (10 + t) - (10 : Int32) = nI t by rcases (show t = 0 ∨ t = 1 ∨ t = 2 by omega) with rfl | rfl | rfl <;> decide, ga_67 ht, sb, (hm.tr ht).1]
theorem Mo_told_no (x : Int32) (n0 : x ≠ 0) (n1 : x ≠ 1) (n2 : ∀ t, t < 3 → x ≠ nI (10 + t)) (n3 : ∀ t q, 1 ≤ t → t < 3 → 2 ≤ q → q ≤ 4 → x ≠ nI (10 * q + t)) : f_Mo_told (Wd A I sw) 64 x = some (-2, Wd A I sw) := by
  have r61 : f_Mo_told_61 (Wd A I sw) 64 x = some (-2, Wd A I sw) := by
    unfold f_Mo_told_61
    rw [if_neg n0, if_neg n1, sb]
  unfold f_Mo_told
  rw [kk_64]
  have out : (x < 0 ∨ nI 50 ≤ x) → f_Mo_in x.toInt64 (10 : Int64) (12 : Int64) = some 0 ∧ f_Mo_in x.toInt64 (20 : Int64) (49 : Int64) = some 0 := by
    intro q
    have z : ∀ lo hi : Int32, (0 : Int32) ≤ lo → hi ≤ nI 49 → ¬ (lo ≤ x ∧ x ≤ hi) := fun lo hi a b w => out_cond (n := 49) (by decide) q (by decide) ⟨Int32.le_trans a w.1, Int32.le_trans w.2 b⟩
    rw [inL x 10 12 (a := 10) (b := 12) rfl rfl, inL x 20 49 (a := 20) (b := 49) rfl rfl, if_neg (z 10 12 (by decide) (by decide)), if_neg (z 20 49 (by decide) (by decide))]
    exact ⟨rfl, rfl⟩
  have go : (x < 0 ∨ nI 50 ≤ x) → _ := fun q => out q
  rcases pk_ix x (n := 50) (by decide) with q | q | ⟨k, hk, rfl⟩
  · rw [(out (Or.inl q)).1, sb, if_pos rfl, (out (Or.inl q)).2, sb, if_pos rfl, r61]
  · rw [(out (Or.inr q)).1, sb, if_pos rfl, (out (Or.inr q)).2, sb, if_pos rfl, r61]
  · have a1 : ¬ (10 ≤ k ∧ k ≤ 12) := fun w => n2 (k - 10) (by omega) (by rw [show 10 + (k - 10) = k by omega])
    rw [inN (a := 10) (b := 12) (lo := 10) (hi := 12) rfl rfl (by omega) (by decide) (by decide), if_neg a1, sb, if_pos rfl, inN (a := 20) (b := 49) (lo := 20) (hi := 49) rfl rfl (by omega) (by decide) (by decide)]
    by_cases c : 20 ≤ k ∧ k ≤ 49
    · have a2 : ¬ (k % 10 = 1 ∨ k % 10 = 2) := fun w => n3 (k % 10) (k / 10) (by omega) (by omega) (by omega) (by omega) (by rw [Nat.div_add_mod])
      have a3 : nI (k % 10) = nI 0 ∨ nI (k % 10) < 0 ∨ nI 3 ≤ nI (k % 10) := by
        by_cases u : k % 10 = 0
        · exact Or.inl (by rw [u])
        · exact Or.inr (Or.inr ((nI_leI (by omega) (by omega)).mpr (by omega)))
      rw [if_pos c, sb, if_neg (show ¬ (1 : Int32) = 0 by decide), rem10 (by omega), Mo_isSide_out a3, sb, if_pos rfl, r61]
    · rw [if_neg c, sb, if_pos rfl, r61]
theorem op_told (h : Inv A I sw) (x : Int32) : Both A I sw (fun h => f_MF_told h 0 x) (fun h => f_Mo_told h 64 x) := by
  obtain ⟨pn, ps, T, K, hv, hc, hm⟩ := h
  obtain ⟨B, J, z1, z2, z3, z4⟩ := refresh_cls hv.2.1 hc
  have hm2 := z4.mod hm
  have wf1 := tS_WF (T := T) (t := 1) (by decide) (by decide)
  have wf2 := tS_WF (T := T) (t := 2) (by decide) (by decide)
  have b0 := hv.2.1.1.1
  have b1 := hv.2.1.2.1.1
  have b2 := hv.2.1.2.2.1.1
  have p1 : PairsIs B 35 (tS T 1) := z3.pairs (t := 1) (by decide) (by decide)
  have p2 : PairsIs B 45 (tS T 2) := z3.pairs (t := 2) (by decide) (by decide)
  obtain ⟨k1, st1, v1, -⟩ := z3.moves (t := 1) (by decide) (by decide)
  obtain ⟨k2, st2, v2, -⟩ := z3.moves (t := 2) (by decide) (by decide)
  have v1 : MovesIs B J 40 (tF T 1) k1 st1 := v1
  have v2 : MovesIs B J 50 (tF T 2) k2 st2 := v2
  have tre : ∀ t, t < 3 → f_MF_told (Wd A I sw) 0 (nI (10 + t)) = some (nI (trT T t).1, Wd A I sw) → Both A I sw (fun h => f_MF_told h 0 (nI (10 + t))) (fun h => f_Mo_told h 64 (nI (10 + t))) := fun t ht e => Both.mk (x := nI (trT T t).1) e (Mo_told_t hm ht) hv hc hm RFr.rf
  have sid : ∀ t q, 1 ≤ t → t < 3 → 2 ≤ q → q ≤ 4 → f_MF_told (Wd A I sw) 0 (nI (10 * q + t)) = some (nI (tl T t q), Wd B J sw) → Both A I sw (fun h => f_MF_told h 0 (nI (10 * q + t))) (fun h => f_Mo_told h 64 (nI (10 * q + t))) := fun t q a b c d e => by
    obtain ⟨C, w1, w2, w3⟩ := Mo_told_s (sw := sw) hv.2.1 hm2 a b c d
    exact Both.mk (x := nI (tl T t q)) e w1 hv z2 w2 w3
  by_cases c0 : x = nI 0
  · subst c0
    refine Both.mk (x := nI pn) (B := A) (J := I) (C := A) (L := I) ?_ ?_ hv hc hm RFr.rf
    · unfold f_MF_told f_Pad_size
      rw [kk_0, if_pos (show nI 0 < (20 : Int32) by decide), sb, if_pos (show nI 0 = (0 : Int32) from rfl), rr_0_0, sb, kk_1, gg_1_1, sb, sb, hc.1.1]
    · unfold f_Mo_told f_Mo_told_61
      rw [kk_64, inN (a := 10) (b := 12) (lo := 10) (hi := 12) rfl rfl (by decide) (by decide) (by decide), if_neg (by decide), sb, if_pos rfl, inN (a := 20) (b := 49) (lo := 20) (hi := 49) rfl rfl (by decide) (by decide) (by decide), if_neg (by decide), sb, if_pos rfl, if_pos (show nI 0 = (0 : Int32) from rfl), gg_64_5, sb, sb, hm.1.1]
  by_cases c1 : x = nI 1
  · subst c1
    refine Both.mk (x := nI T.2.2.2) (B := A) (J := I) (C := A) (L := I) ?_ ?_ hv hc hm RFr.rf
    · unfold f_MF_told
      rw [kk_0, if_pos (show nI 1 < (20 : Int32) by decide), sb, if_neg (show ¬ nI 1 = (0 : Int32) by decide), if_pos (show nI 1 = (1 : Int32) from rfl), rr_0_1, sb, gg_3_3, sb, hc.2.1.2.2.2]
    · unfold f_Mo_told f_Mo_told_61
      rw [kk_64, inN (a := 10) (b := 12) (lo := 10) (hi := 12) rfl rfl (by decide) (by decide) (by decide), if_neg (by decide), sb, if_pos rfl, inN (a := 20) (b := 49) (lo := 20) (hi := 49) rfl rfl (by decide) (by decide) (by decide), if_neg (by decide), sb, if_pos rfl, if_neg (show ¬ nI 1 = (0 : Int32) by decide), if_pos (show nI 1 = (1 : Int32) from rfl), gg_64_3, sb, sb, hm.2.2.2.2.1]
  by_cases c10 : x = nI 10
  · subst c10
    refine tre 0 (by decide) ?_
    unfold f_MF_told
    rw [kk_0, if_pos (show nI 10 < (20 : Int32) by decide), sb, if_neg (show ¬ nI 10 = (0 : Int32) by decide), if_neg (show ¬ nI 10 = (1 : Int32) by decide), if_pos (show nI 10 = (10 : Int32) from rfl), rr_0_1, sb, rr_3_0, sb, Tree_size (by decide) hc.2.1.1, sb]
    rfl
  by_cases c11 : x = nI 11
  · subst c11
    refine tre 1 (by decide) ?_
    unfold f_MF_told
    rw [kk_0, if_pos (show nI 11 < (20 : Int32) by decide), sb, if_neg (show ¬ nI 11 = (0 : Int32) by decide), if_neg (show ¬ nI 11 = (1 : Int32) by decide), if_neg (show ¬ nI 11 = (10 : Int32) by decide), if_pos (show nI 11 = (11 : Int32) from rfl), rr_0_1, sb, rr_3_1, sb, Tree_size (isT1 sw) hc.2.1.2.1, sb]
    rfl
  by_cases c12 : x = nI 12
  · subst c12
    refine tre 2 (by decide) ?_
    unfold f_MF_told
    rw [kk_0, if_pos (show nI 12 < (20 : Int32) by decide), sb, if_neg (show ¬ nI 12 = (0 : Int32) by decide), if_neg (show ¬ nI 12 = (1 : Int32) by decide), if_neg (show ¬ nI 12 = (10 : Int32) by decide), if_neg (show ¬ nI 12 = (11 : Int32) by decide), if_pos (show nI 12 = (12 : Int32) from rfl), rr_0_1, sb, rr_3_2, sb, Tree_size (isT2 sw) hc.2.1.2.2.1, sb]
    rfl
  by_cases c21 : x = nI 21
  · subst c21
    refine sid 1 2 (by decide) (by decide) (by decide) (by decide) ?_
    unfold f_MF_told
    rw [kk_0, if_neg (show ¬ nI 21 < (20 : Int32) by decide), z1, sb, sb, if_neg (show ¬ nI 21 = (0 : Int32) by decide), if_neg (show ¬ nI 21 = (1 : Int32) by decide), if_neg (show ¬ nI 21 = (10 : Int32) by decide), if_neg (show ¬ nI 21 = (11 : Int32) by decide), if_neg (show ¬ nI 21 = (12 : Int32) by decide), if_pos (show nI 21 = (21 : Int32) from rfl), rr_0_5, sb, rr_34_0, sb, rr_0_1, sb, rr_3_0, sb, Pairs_countGone (show isP 35 = true by decide) (by decide) z2.2.1.1 p1 (fun i j e => by have := (wf1.1 i j e).2; have := (hv.2.1.tr 1).1; omega), sb]
    rfl
  by_cases c22 : x = nI 22
  · subst c22
    refine sid 2 2 (by decide) (by decide) (by decide) (by decide) ?_
    unfold f_MF_told
    rw [kk_0, if_neg (show ¬ nI 22 < (20 : Int32) by decide), z1, sb, sb, if_neg (show ¬ nI 22 = (0 : Int32) by decide), if_neg (show ¬ nI 22 = (1 : Int32) by decide), if_neg (show ¬ nI 22 = (10 : Int32) by decide), if_neg (show ¬ nI 22 = (11 : Int32) by decide), if_neg (show ¬ nI 22 = (12 : Int32) by decide), if_neg (show ¬ nI 22 = (21 : Int32) by decide), if_pos (show nI 22 = (22 : Int32) from rfl), rr_0_6, sb, rr_44_0, sb, rr_0_1, sb, rr_3_0, sb, Pairs_countGone (show isP 45 = true by decide) (by decide) z2.2.1.1 p2 (fun i j e => by have := (wf2.1 i j e).2; have := (hv.2.1.tr 2).1; omega), sb]
    rfl
  by_cases c31 : x = nI 31
  · subst c31
    refine sid 1 3 (by decide) (by decide) (by decide) (by decide) ?_
    unfold f_MF_told
    rw [kk_0, if_neg (show ¬ nI 31 < (20 : Int32) by decide), z1, sb, sb, if_neg (show ¬ nI 31 = (0 : Int32) by decide), if_neg (show ¬ nI 31 = (1 : Int32) by decide), if_neg (show ¬ nI 31 = (10 : Int32) by decide), if_neg (show ¬ nI 31 = (11 : Int32) by decide), if_neg (show ¬ nI 31 = (12 : Int32) by decide), if_neg (show ¬ nI 31 = (21 : Int32) by decide), if_neg (show ¬ nI 31 = (22 : Int32) by decide), if_pos (show nI 31 = (31 : Int32) from rfl), rr_0_5, sb, rr_34_0, sb, rr_0_1, sb, rr_3_1, sb, Pairs_countNew (show isP 35 = true by decide) (isT1 sw) z2.2.1.2.1 p1 (fun i j e => by have := (wf1.2.1 i j e).1; omega), sb]
    rfl
  by_cases c32 : x = nI 32
  · subst c32
    refine sid 2 3 (by decide) (by decide) (by decide) (by decide) ?_
    unfold f_MF_told
    rw [kk_0, if_neg (show ¬ nI 32 < (20 : Int32) by decide), z1, sb, sb, if_neg (show ¬ nI 32 = (0 : Int32) by decide), if_neg (show ¬ nI 32 = (1 : Int32) by decide), if_neg (show ¬ nI 32 = (10 : Int32) by decide), if_neg (show ¬ nI 32 = (11 : Int32) by decide), if_neg (show ¬ nI 32 = (12 : Int32) by decide), if_neg (show ¬ nI 32 = (21 : Int32) by decide), if_neg (show ¬ nI 32 = (22 : Int32) by decide), if_neg (show ¬ nI 32 = (31 : Int32) by decide), if_pos (show nI 32 = (32 : Int32) from rfl), rr_0_6, sb, rr_44_0, sb, rr_0_1, sb, rr_3_2, sb, Pairs_countNew (show isP 45 = true by decide) (isT2 sw) z2.2.1.2.2.1 p2 (fun i j e => by have := (wf2.2.1 i j e).1; omega), sb]
    rfl
  by_cases c41 : x = nI 41
  · subst c41
    refine sid 1 4 (by decide) (by decide) (by decide) (by decide) ?_
    unfold f_MF_told
    rw [kk_0, if_neg (show ¬ nI 41 < (20 : Int32) by decide), z1, sb, sb, if_neg (show ¬ nI 41 = (0 : Int32) by decide), if_neg (show ¬ nI 41 = (1 : Int32) by decide), if_neg (show ¬ nI 41 = (10 : Int32) by decide), if_neg (show ¬ nI 41 = (11 : Int32) by decide), if_neg (show ¬ nI 41 = (12 : Int32) by decide), if_neg (show ¬ nI 41 = (21 : Int32) by decide), if_neg (show ¬ nI 41 = (22 : Int32) by decide), if_neg (show ¬ nI 41 = (31 : Int32) by decide), if_neg (show ¬ nI 41 = (32 : Int32) by decide), if_pos (show nI 41 = (41 : Int32) from rfl), rr_0_5, sb, rr_34_1, sb, Moves_size (show isM 40 = true by decide) v1, sb]
    exact congrArg (fun z => some (nI z, Wd B J sw)) v1.2.2.2.2.2.1.symm
  by_cases c42 : x = nI 42
  · subst c42
    refine sid 2 4 (by decide) (by decide) (by decide) (by decide) ?_
    unfold f_MF_told
    rw [kk_0, if_neg (show ¬ nI 42 < (20 : Int32) by decide), z1, sb, sb, if_neg (show ¬ nI 42 = (0 : Int32) by decide), if_neg (show ¬ nI 42 = (1 : Int32) by decide), if_neg (show ¬ nI 42 = (10 : Int32) by decide), if_neg (show ¬ nI 42 = (11 : Int32) by decide), if_neg (show ¬ nI 42 = (12 : Int32) by decide), if_neg (show ¬ nI 42 = (21 : Int32) by decide), if_neg (show ¬ nI 42 = (22 : Int32) by decide), if_neg (show ¬ nI 42 = (31 : Int32) by decide), if_neg (show ¬ nI 42 = (32 : Int32) by decide), if_neg (show ¬ nI 42 = (41 : Int32) by decide), if_pos (show nI 42 = (42 : Int32) from rfl), rr_0_6, sb, rr_44_1, sb, Moves_size (show isM 50 = true by decide) v2, sb]
    exact congrArg (fun z => some (nI z, Wd B J sw)) v2.2.2.2.2.2.1.symm
  have no : ∀ (B J : Nat → Nat → Int32), f_Mo_told (Wd B J sw) 64 x = some (-2, Wd B J sw) := fun B J => by
    refine Mo_told_no x c0 c1 (fun t ht e => ?_) (fun t q a b c d e => ?_)
    · rcases (show t = 0 ∨ t = 1 ∨ t = 2 by omega) with rfl | rfl | rfl
      · exact c10 e
      · exact c11 e
      · exact c12 e
    · rcases (show t = 1 ∨ t = 2 by omega) with rfl | rfl
      · rcases (show q = 2 ∨ q = 3 ∨ q = 4 by omega) with rfl | rfl | rfl
        · exact c21 e
        · exact c31 e
        · exact c41 e
      · rcases (show q = 2 ∨ q = 3 ∨ q = 4 by omega) with rfl | rfl | rfl
        · exact c22 e
        · exact c32 e
        · exact c42 e
  by_cases cl : x < (20 : Int32)
  · refine Both.mk (x := -2) (B := A) (J := I) (C := A) (L := I) ?_ (no A I) hv hc hm RFr.rf
    unfold f_MF_told
    rw [kk_0, if_pos cl, sb, if_neg (show ¬ x = (0 : Int32) from c0), if_neg (show ¬ x = (1 : Int32) from c1), if_neg (show ¬ x = (10 : Int32) from c10), if_neg (show ¬ x = (11 : Int32) from c11), if_neg (show ¬ x = (12 : Int32) from c12), if_neg (show ¬ x = (21 : Int32) from c21), if_neg (show ¬ x = (22 : Int32) from c22), if_neg (show ¬ x = (31 : Int32) from c31), if_neg (show ¬ x = (32 : Int32) from c32), if_neg (show ¬ x = (41 : Int32) from c41), if_neg (show ¬ x = (42 : Int32) from c42)]
  · refine Both.mk (x := -2) (B := B) (J := J) (C := B) (L := J) ?_ (no B J) hv z2 hm2 RFr.rf
    unfold f_MF_told
    rw [kk_0, if_neg cl, z1, sb, sb, if_neg (show ¬ x = (0 : Int32) from c0), if_neg (show ¬ x = (1 : Int32) from c1), if_neg (show ¬ x = (10 : Int32) from c10), if_neg (show ¬ x = (11 : Int32) from c11), if_neg (show ¬ x = (12 : Int32) from c12), if_neg (show ¬ x = (21 : Int32) from c21), if_neg (show ¬ x = (22 : Int32) from c22), if_neg (show ¬ x = (31 : Int32) from c31), if_neg (show ¬ x = (32 : Int32) from c32), if_neg (show ¬ x = (41 : Int32) from c41), if_neg (show ¬ x = (42 : Int32) from c42)]
end O17
