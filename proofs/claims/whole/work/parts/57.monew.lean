-- ===== the reference: files that are new on a side =====
def UsM (A : Nat → Nat → Int32) (u : Nat → Bool) : Prop := ∀ j, j < 12 → A 78 j = if u j = true then 1 else 0
/-- what the reference's merge may change -/
def MwF (A I A' I' : Nat → Nat → Int32) : Prop := (∀ a, (a < 73 ∨ 79 ≤ a) → A' a = A a) ∧ ∀ a b, (a ≠ 64 ∨ (b ≠ 20 ∧ b ≠ 21)) → I' a b = I a b
theorem MwF.rf {A I : Nat → Nat → Int32} : MwF A I A I := ⟨fun _ _ => rfl, fun _ _ _ => rfl⟩
theorem MwF.tr {A I B J C K : Nat → Nat → Int32} (h : MwF A I B J) (g : MwF B J C K) : MwF A I C K := ⟨fun a e => (g.1 a e).trans (h.1 a e), fun a b e => (g.2 a b e).trans (h.2 a b e)⟩
theorem MoF.mw {A I A' I' : Nat → Nat → Int32} (h : MoF A I A' I') : MwF A I A' I' := ⟨fun a e => h.1 a (by omega), h.2⟩
theorem MwF.lo {A I A' I' : Nat → Nat → Int32} (h : MwF A I A' I') : ∀ a, a < 73 → A' a = A a := fun a ha => h.1 a (Or.inl ha)
section NM
variable {A I : Nat → Nat → Int32} {sw : Bool} {X Y Z : Tre} {s1 s2 : Pst} {f1 f2 : Nat → Option Nat} {D1 D2 : Nat → Nat}
theorem Mo_newPath1 (h : CxM A X Y Z s1 s2 f1 f2) (v : Vx X Y Z s1 s2 f1 f2) (hD2 : D2 = dst f2 (rnd f2 f1 f2)) {i : Nat} (hi : i < Y.1) : ∃ A', f_Mo_newPath (Wd A I sw) 64 (1 : Int32) (nI i) = some (nI (nP D2 Y i), Wd A' I sw) ∧ M3F A A' := by
  obtain ⟨A', z1, z2⟩ := Mo_dest2 (I := I) (sw := sw) h v (v.2.1.f hi).1
  have k := h.kept z2.lo
  refine ⟨A', ?_, z2⟩
  have e1 : f_Mo_folderAt (Wd A I sw) 64 (1 : Int32) (nI i) = _ := Mo_folderAt (t := 1) (by decide) h.2.1 v.2.1 hi
  have e2 : f_Mo_nameAt (Wd A' I sw) 64 (1 : Int32) (nI i) = _ := Mo_nameAt (t := 1) (by decide) k.2.1 v.2.1 hi
  unfold f_Mo_newPath
  rw [kk_64, e1, sb, show (3 : Int32) - (1 : Int32) = (2 : Int32) by decide, z1, sb]
  dsimp only
  rw [e2, sb, ← hD2, nP_i]
theorem Mo_newPath2 (h : CxM A X Y Z s1 s2 f1 f2) (v : Vx X Y Z s1 s2 f1 f2) (hD1 : D1 = dst f1 (rnd f1 f1 f2)) {i : Nat} (hi : i < Z.1) : ∃ A', f_Mo_newPath (Wd A I sw) 64 (2 : Int32) (nI i) = some (nI (nP D1 Z i), Wd A' I sw) ∧ M3F A A' := by
  obtain ⟨A', z1, z2⟩ := Mo_dest1 (I := I) (sw := sw) h v (v.2.2.1.f hi).1
  have k := h.kept z2.lo
  refine ⟨A', ?_, z2⟩
  have e1 : f_Mo_folderAt (Wd A I sw) 64 (2 : Int32) (nI i) = _ := Mo_folderAt (t := 2) (by decide) h.2.2.1 v.2.2.1 hi
  have e2 : f_Mo_nameAt (Wd A' I sw) 64 (2 : Int32) (nI i) = _ := Mo_nameAt (t := 2) (by decide) k.2.2.1 v.2.2.1 hi
  unfold f_Mo_newPath
  rw [kk_64, e1, sb, show (3 : Int32) - (2 : Int32) = (1 : Int32) by decide, z1, sb]
  dsimp only
  rw [e2, sb, ← hD1, nP_i]
theorem Mo_n1 (h1 : MTree A 1 Y) : gA (Wd A I sw) false 67 (1 : Int32) = some (nI Y.1) := by
  have := ga_67 (A := A) (I := I) (sw := sw) (i := 1) (by decide)
  rw [h1.1] at this
  exact this
theorem Mo_n2 (h1 : MTree A 2 Z) : gA (Wd A I sw) false 67 (2 : Int32) = some (nI Z.1) := by
  have := ga_67 (A := A) (I := I) (sw := sw) (i := 2) (by decide)
  rw [h1.1] at this
  exact this
theorem Mo_src2 (h : MPairs A 2 s2) {j : Nat} (hj : j < 12) : gA (Wd A I sw) false 71 ((24 : Int32) + nI j) = some (o2i (s2.2.2 j)) := by
  rw [show (24 : Int32) + nI j = nI (24 + j) from nI_add 24 j, ga_71 (by omega)]
  exact congrArg some (h j hj).2.2
theorem Mo_src1 (h : MPairs A 1 s1) {j : Nat} (hj : j < 12) : gA (Wd A I sw) false 71 ((12 : Int32) + nI j) = some (o2i (s1.2.2 j)) := by
  rw [show (12 : Int32) + nI j = nI (12 + j) from nI_add 12 j, ga_71 (by omega)]
  exact congrArg some (h j hj).2.2
theorem Mo_twinOf {u : Nat → Bool} (h : CxM A X Y Z s1 s2 f1 f2) (v : Vx X Y Z s1 s2 f1 f2) (hD1 : D1 = dst f1 (rnd f1 f1 f2)) (hU : UsM A u) {p c : Nat} (hp : p < 2 ^ 31) (hc : c < 2 ^ 31) : ∃ A', f_Mo_twinOf (Wd A I sw) 64 (nI p) (nI c) = some (o2i (twn D1 Z s2 u p c), Wd A' I sw) ∧ M3F A A' := by
  have hX := h.1.2.1
  have hZ := h.2.2.1.2.1
  have hDD := v.d.1
  rw [← hD1] at hDD
  have key : ∀ (k j f : Nat) (B : Nat → Nat → Int32), j + k = Z.1 → k < f → M3F A B → ∃ A', f_Mo_twinOf_2 64 (nI p) (nI c) f (nI j) (Wd B I sw) = some (o2i (fnd (fun j => (decide (s2.2.2 j = none) && !(u j)) && (decide (nP D1 Z j = p) && decide (Z.2.2 j = c))) j k), Wd A' I sw) ∧ M3F A A' := by
    intro k
    induction k with
    | zero =>
      intro j f B e1 e2 e3
      obtain ⟨f, rfl⟩ : ∃ g, f = g + 1 := ⟨f - 1, by omega⟩
      refine ⟨B, ?_, e3⟩
      rw [f_Mo_twinOf_2, rr_64_2, sb, Mo_n2 (h.kept e3.lo).2.2.1, sb, ifc (nI_leI (by omega) (by omega)), if_pos (by omega)]
      rfl
    | succ k ih =>
      intro j f B e1 e2 e3
      obtain ⟨f, rfl⟩ : ∃ g, f = g + 1 := ⟨f - 1, by omega⟩
      have cB := h.kept e3.lo
      have hu : B 78 j = if u j = true then 1 else 0 := by rw [e3 78 (by decide)]; exact hU j (by omega)
      have hnp := vP_lt (nP_v hDD v.2.2.1 (i := j) (by omega))
      have hcj := v.2.2.1.c (i := j) (by omega)
      obtain ⟨B1, y1, y2⟩ := Mo_newPath2 (I := I) (sw := sw) cB v hD1 (i := j) (by omega)
      have ec : f_Mo_contentAt (Wd B I sw) 64 (2 : Int32) (nI j) = _ := Mo_contentAt (t := 2) (by decide) cB.2.2.1 (by omega)
      obtain ⟨A1, x1, x2⟩ := ih (j + 1) f B (by omega) (by omega) e3
      obtain ⟨A2, w1, w2⟩ := ih (j + 1) f B1 (by omega) (by omega) (e3.tr y2)
      have ef : ((if (0 : Int32) ≤ o2i (s2.2.2 j) then some (0 : Int32) else (if (if u j = true then (1 : Int32) else (0 : Int32)) = (0 : Int32) then some (1 : Int32) else some (0 : Int32))) : Option Int32) = some (if (decide (s2.2.2 j = none) && !(u j)) = true then 1 else 0) := by
        rw [ifc (isS2 v.2.2.2.2.1 hX j)]
        by_cases q : s2.2.2 j = none
        · rw [if_neg (fun z => z q)]
          cases u j <;> simp [q]
        · rw [if_pos q]
          simp [q]
      rw [f_Mo_twinOf_2, rr_64_2, sb, Mo_n2 cB.2.2.1, sb, ifc (nI_leI (by omega) (by omega)), if_neg (by omega), rr_64_13, sb, Mo_src2 cB.2.2.2.2.1 (by omega), sb, rr_64_22, sb, ga_78 (by omega), sb, hu, ef, sb, ec, sb, ifc (nI_eq (by omega) hc), y1, sb, add1, fnd]
      dsimp only
      rw [ifc (nI_eq (by omega) hp), x1, w1]
      cases b1 : (decide (s2.2.2 j = none) && !(u j)) with
      | false =>
        rw [if_pos (show (if false = true then (1 : Int32) else (0 : Int32)) = 0 by decide), Bool.false_and]
        simp only [Bool.false_eq_true, if_false]
        exact ⟨A1, rfl, x2⟩
      | true =>
        rw [if_neg (show ¬ (if true = true then (1 : Int32) else (0 : Int32)) = 0 by decide), Bool.true_and]
        by_cases c1 : Z.2.2 j = c
        · by_cases c2 : nP D1 Z j = p
          · rw [if_pos c1, if_pos c2]
            refine ⟨B1, ?_, e3.tr y2⟩
            simp [c1, c2, o2i]
          · rw [if_pos c1, if_neg c2]
            refine ⟨A2, ?_, w2⟩
            simp [c2]
        · rw [if_neg c1]
          refine ⟨A1, ?_, x2⟩
          simp [c1]
  unfold f_Mo_twinOf twn
  rw [kk_64]
  exact key Z.1 0 FU A (by omega) (by rw [FU_eq]; omega) (fun _ _ => rfl)
theorem Mo_new99 {S : Ent → Prop} {n : Nat} {u : Nat → Bool} (h : CxM A X Y Z s1 s2 f1 f2) (v : Vx X Y Z s1 s2 f1 f2) (hD1 : D1 = dst f1 (rnd f1 f1 f2)) (hn : n ≤ 24) (hU : UsM A u) : ∀ (k i f : Nat) (B J : Nat → Nat → Int32), i + k = Z.1 → k < f → MwF A I B J → B 78 = A 78 → InvM B J (accS (n2E D1 Z s2 u) S i) (accN (n2E D1 Z s2 u) n i) (200 + i) → ∃ A' I', f_Mo_mergeNew_99 64 f (nI i) (Wd B J sw) = some (Wd A' I' sw) ∧ InvM A' I' (accS (n2E D1 Z s2 u) S Z.1) (accN (n2E D1 Z s2 u) n Z.1) 300 ∧ MwF A I A' I' := by
  have hX := h.1.2.1
  have hZ := h.2.2.1.2.1
  have hDD := v.d.1
  rw [← hD1] at hDD
  intro k
  induction k with
  | zero =>
    intro i f B J e1 e2 e3 e5 e4
    obtain ⟨f, rfl⟩ : ∃ g, f = g + 1 := ⟨f - 1, by omega⟩
    have hi : i = Z.1 := by omega
    subst hi
    refine ⟨B, J, ?_, ?_, e3⟩
    · rw [f_Mo_mergeNew_99, rr_64_2, sb, Mo_n2 (h.kept e3.lo).2.2.1, sb, if_pos (Int32.le_refl _)]
    · obtain ⟨e, a1, a2, a3, a4⟩ := e4
      exact ⟨e, a1, a2, a3, fun y hy => by have := a4 y hy; omega⟩
  | succ k ih =>
    intro i f B J e1 e2 e3 e5 e4
    obtain ⟨f, rfl⟩ : ∃ g, f = g + 1 := ⟨f - 1, by omega⟩
    have cB := h.kept e3.lo
    have hu : B 78 i = if u i = true then 1 else 0 := by rw [e5]; exact hU i (by omega)
    have hvc := (v.2.2.1.2.1 i (by omega)).2
    have hnv := nP_v hDD v.2.2.1 (i := i) (by omega)
    rw [f_Mo_mergeNew_99, rr_64_2, sb, Mo_n2 cB.2.2.1, sb, ifc (nI_leI (by omega) (by omega)), if_neg (by omega), rr_64_13, sb, Mo_src2 cB.2.2.2.2.1 (by omega), sb, rr_64_22, sb, ga_78 (by omega), sb, hu, ifc (isS2 v.2.2.2.2.1 hX i), add1]
    have skip : n2E D1 Z s2 u i = none → ∃ A' I', ((some (Wd B J sw)).bind fun h7 => f_Mo_mergeNew_99 64 f (nI (i + 1)) h7) = some (Wd A' I' sw) ∧ InvM A' I' (accS (n2E D1 Z s2 u) S Z.1) (accN (n2E D1 Z s2 u) n Z.1) 300 ∧ MwF A I A' I' := fun eN => by
      rw [sb]
      refine ih (i + 1) f B J (by omega) (by omega) e3 e5 ?_
      rw [accS, accN]
      exact e4.skip eN (by omega)
    by_cases c : s2.2.2 i = none
    · rw [if_neg (fun z => z c)]
      cases eu : u i with
      | true =>
        rw [if_neg (show ¬ (if true = true then (1 : Int32) else (0 : Int32)) = 0 by decide)]
        exact skip (by unfold n2E; rw [if_neg (fun z => by have := z.2; rw [eu] at this; cases this)])
      | false =>
        have eN : n2E D1 Z s2 u i = some (nP D1 Z i, Z.2.2 i, 0, 200 + i) := by unfold n2E; rw [if_pos ⟨c, eu⟩]
        have hb := accN_le (n2E D1 Z s2 u) n i
        obtain ⟨B1, y1, y2⟩ := Mo_newPath2 (I := J) (sw := sw) cB v hD1 (i := i) (by omega)
        have cB1 := cB.kept y2.lo
        have ec : f_Mo_contentAt (Wd B1 J sw) 64 (2 : Int32) (nI i) = _ := Mo_contentAt (t := 2) (by decide) cB1.2.2.1 (by omega)
        have g1 := e4.kept (A' := B1) (I' := J) (y2 74 (by decide)) (y2 75 (by decide)) (y2 76 (by decide)) (y2 77 (by decide)) rfl
        obtain ⟨B2, J2, w1, w2, w3⟩ := g1.add (sw := sw) (x := (nP D1 Z i, Z.2.2 i, 0, 200 + i)) ⟨hnv, hvc, (by decide : 0 < 16), (by show 200 + i < 300; omega)⟩ (by omega) (Nat.le_refl _)
        have w1' : f_Mo_addEntry (Wd B1 J sw) 64 (nI (nP D1 Z i)) (nI (Z.2.2 i)) (0 : Int32) (nI (200 + i)) = some (Wd B2 J2 sw) := w1
        rw [if_pos (show (if false = true then (1 : Int32) else (0 : Int32)) = 0 by decide), y1, sb]
        dsimp only
        rw [ec, sb, show (200 : Int32) + nI i = nI (200 + i) from nI_add 200 i, w1', sb, sb]
        refine ih (i + 1) f B2 J2 (by omega) (by omega) (e3.tr (y2.mo.tr w3.mo).mw) ?_ ?_
        · rw [w3.1 78 (by decide) (by decide) (by decide) (by decide), y2 78 (by decide), e5]
        · rw [accS, accN, eN]
          exact w2
    · rw [if_pos c]
      exact skip (by unfold n2E; rw [if_neg (fun z => c z.1)])
theorem Mo_mergeNew {S : Ent → Prop} {n : Nat} (h : CxM A X Y Z s1 s2 f1 f2) (v : Vx X Y Z s1 s2 f1 f2) (hD1 : D1 = dst f1 (rnd f1 f1 f2)) (hD2 : D2 = dst f2 (rnd f2 f1 f2)) (g : InvM A I S n 100) (hn : n ≤ 12) : ∃ A' I', f_Mo_mergeNew (Wd A I sw) 64 = some (Wd A' I' sw) ∧ InvM A' I' (accS (n2E D1 Z s2 (usd D1 D2 Y Z s1 s2 Y.1)) (accS (n1E D2 Y s1) S Y.1) Z.1) (accN (n2E D1 Z s2 (usd D1 D2 Y Z s1 s2 Y.1)) (accN (n1E D2 Y s1) n Y.1) Z.1) 300 ∧ MwF A I A' I' := by
  have hX := h.1.2.1
  have hY := h.2.1.2.1
  have hZ := h.2.2.1.2.1
  have hDD := v.d.2
  rw [← hD2] at hDD
  have k23 : ∀ (k i f : Nat) (B J : Nat → Nat → Int32), i + k = Y.1 → k < f → MwF A I B J → UsM B (usd D1 D2 Y Z s1 s2 i) → InvM B J (accS (n1E D2 Y s1) S i) (accN (n1E D2 Y s1) n i) (100 + i) → ∃ A' I', f_Mo_mergeNew_23 64 f (nI i) (Wd B J sw) = some (Wd A' I' sw) ∧ InvM A' I' (accS (n2E D1 Z s2 (usd D1 D2 Y Z s1 s2 Y.1)) (accS (n1E D2 Y s1) S Y.1) Z.1) (accN (n2E D1 Z s2 (usd D1 D2 Y Z s1 s2 Y.1)) (accN (n1E D2 Y s1) n Y.1) Z.1) 300 ∧ MwF A I A' I' := by
    intro k
    induction k with
    | zero =>
      intro i f B J e1 e2 e3 e5 e4
      obtain ⟨f, rfl⟩ : ∃ g, f = g + 1 := ⟨f - 1, by omega⟩
      have hi : i = Y.1 := by omega
      subst hi
      have cB := h.kept e3.lo
      have hb := accN_le (n1E D2 Y s1) n Y.1
      have g2 : InvM B J (accS (n1E D2 Y s1) S Y.1) (accN (n1E D2 Y s1) n Y.1) 200 := by
        obtain ⟨e, a1, a2, a3, a4⟩ := e4
        exact ⟨e, a1, a2, a3, fun y hy => by have := a4 y hy; omega⟩
      obtain ⟨A', I', z1, z2, z3⟩ := Mo_new99 (I := J) (sw := sw) (S := accS (n1E D2 Y s1) S Y.1) (n := accN (n1E D2 Y s1) n Y.1) cB v hD1 (by omega) e5 Z.1 0 FU B J (by omega) (by rw [FU_eq]; omega) MwF.rf rfl g2
      have z1' : f_Mo_mergeNew_99 64 FU (0 : Int32) (Wd B J sw) = _ := z1
      refine ⟨A', I', ?_, z2, e3.tr z3⟩
      rw [f_Mo_mergeNew_23, rr_64_2, sb, Mo_n1 cB.2.1, sb, if_pos (Int32.le_refl _), z1']
    | succ k ih =>
      intro i f B J e1 e2 e3 e5 e4
      obtain ⟨f, rfl⟩ : ∃ g, f = g + 1 := ⟨f - 1, by omega⟩
      have cB := h.kept e3.lo
      have hvc := (v.2.1.2.1 i (by omega)).2
      have hcl := vC_lt hvc
      have hnv := nP_v hDD v.2.1 (i := i) (by omega)
      have hnl := vP_lt hnv
      rw [f_Mo_mergeNew_23, rr_64_2, sb, Mo_n1 cB.2.1, sb, ifc (nI_leI (by omega) (by omega)), if_neg (by omega), rr_64_13, sb, Mo_src1 cB.2.2.2.1 (by omega), sb, ifc (isS2 v.2.2.2.1 hX i), add1]
      by_cases c : s1.2.2 i = none
      · have eN : n1E D2 Y s1 i = some (nP D2 Y i, Y.2.2 i, 0, 100 + i) := by unfold n1E; rw [if_pos c]
        have hb := accN_le (n1E D2 Y s1) n i
        obtain ⟨B1, y1, y2⟩ := Mo_newPath1 (I := J) (sw := sw) cB v hD2 (i := i) (by omega)
        have cB1 := cB.kept y2.lo
        have ec1 : f_Mo_contentAt (Wd B1 J sw) 64 (1 : Int32) (nI i) = _ := Mo_contentAt (t := 1) (by decide) cB1.2.1 (by omega)
        have u1 : UsM B1 (usd D1 D2 Y Z s1 s2 i) := fun j hj => by rw [y2 78 (by decide)]; exact e5 j hj
        obtain ⟨B2, x1, x2⟩ := Mo_twinOf (I := J) (sw := sw) (p := nP D2 Y i) (c := Y.2.2 i) cB1 v hD1 u1 (by omega) (by omega)
        have cB2 := cB1.kept x2.lo
        have ec2 : f_Mo_contentAt (Wd B2 J sw) 64 (1 : Int32) (nI i) = _ := Mo_contentAt (t := 1) (by decide) cB2.2.1 (by omega)
        have y12 := y2.tr x2
        have g1 := e4.kept (A' := B2) (I' := J) (y12 74 (by decide)) (y12 75 (by decide)) (y12 76 (by decide)) (y12 77 (by decide)) rfl
        obtain ⟨B3, J3, w1, w2, w3⟩ := g1.add (sw := sw) (x := (nP D2 Y i, Y.2.2 i, 0, 100 + i)) ⟨hnv, hvc, (by decide : 0 < 16), (by show 100 + i < 300; omega)⟩ (by omega) (Nat.le_refl _)
        have w1' : f_Mo_addEntry (Wd B2 J sw) 64 (nI (nP D2 Y i)) (nI (Y.2.2 i)) (0 : Int32) (nI (100 + i)) = some (Wd B3 J3 sw) := w1
        have e33 := e3.tr (y12.mo.tr w3.mo).mw
        have u3 : UsM B3 (usd D1 D2 Y Z s1 s2 i) := fun j hj => by rw [w3.1 78 (by decide) (by decide) (by decide) (by decide), y12 78 (by decide)]; exact e5 j hj
        rw [if_neg (fun z => z c), y1, sb]
        dsimp only
        rw [ec1, sb, x1, sb]
        dsimp only
        rw [ec2, sb, show (100 : Int32) + nI i = nI (100 + i) from nI_add 100 i, w1', sb]
        cases et : twn D1 Z s2 (usd D1 D2 Y Z s1 s2 i) (nP D2 Y i) (Y.2.2 i) with
        | none =>
          rw [o2i_n, if_pos m6_lt0, sb]
          refine ih (i + 1) f B3 J3 (by omega) (by omega) e33 ?_ ?_
          · rw [usd, if_pos c, et]
            exact u3
          · rw [accS, accN, eN]
            exact w2
        | some j =>
          have hj : j < Z.1 := by
            unfold twn at et
            obtain ⟨q1, q2, q3, q4⟩ := fnd_some _ _ _ et
            omega
          rw [o2i_s, if_neg (neg_lt0 (by omega)), rr_64_22, sb, sa_78 (by omega), sb, sb, nar_1]
          refine ih (i + 1) f _ J3 (by omega) (by omega) (e33.tr ⟨fun a ha => up2_fn (by omega), fun _ _ _ => rfl⟩) ?_ ?_
          · rw [usd, if_pos c, et]
            intro q hq
            rw [up2_at]
            dsimp only
            by_cases c4 : q = j
            · simp [c4]
            · simp [c4, u3 q hq]
          · rw [accS, accN, eN]
            exact InvM.kept w2 (up2_fn (by decide)) (up2_fn (by decide)) (up2_fn (by decide)) (up2_fn (by decide)) rfl
      · have eN : n1E D2 Y s1 i = none := by unfold n1E; rw [if_neg c]
        rw [if_pos c, sb]
        refine ih (i + 1) f B J (by omega) (by omega) e3 ?_ ?_
        · rw [usd, if_neg c]
          exact e5
        · rw [accS, accN]
          exact e4.skip eN (by omega)
  have k2 : ∀ (k i f : Nat) (B : Nat → Nat → Int32), i + k = 12 → k < f → (∀ a, a ≠ 78 → B a = A a) → (∀ j, j < i → B 78 j = 0) → ∃ A' I', f_Mo_mergeNew_2 64 f (nI i) (Wd B I sw) = some (Wd A' I' sw) ∧ InvM A' I' (accS (n2E D1 Z s2 (usd D1 D2 Y Z s1 s2 Y.1)) (accS (n1E D2 Y s1) S Y.1) Z.1) (accN (n2E D1 Z s2 (usd D1 D2 Y Z s1 s2 Y.1)) (accN (n1E D2 Y s1) n Y.1) Z.1) 300 ∧ MwF A I A' I' := by
    intro k
    induction k with
    | zero =>
      intro i f B e1 e2 e3 e4
      obtain ⟨f, rfl⟩ : ∃ g, f = g + 1 := ⟨f - 1, by omega⟩
      have hi : i = 12 := by omega
      subst hi
      rw [f_Mo_mergeNew_2, if_pos (by decide)]
      exact k23 Y.1 0 FU B I (by omega) (by rw [FU_eq]; omega) ⟨fun a ha => e3 a (by omega), fun _ _ _ => rfl⟩ (fun j hj => by rw [e4 j hj]; rfl) (g.kept (e3 74 (by decide)) (e3 75 (by decide)) (e3 76 (by decide)) (e3 77 (by decide)) rfl)
    | succ k ih =>
      intro i f B e1 e2 e3 e4
      obtain ⟨f, rfl⟩ : ∃ g, f = g + 1 := ⟨f - 1, by omega⟩
      rw [f_Mo_mergeNew_2, ifc (ge12 (by omega)), if_neg (by omega), rr_64_22, sb, sa_78 (by omega), sb, add1, nar_0]
      refine ih (i + 1) f _ (by omega) (by omega) (fun a ha => by rw [up2_fn ha]; exact e3 a ha) (fun j hj => ?_)
      rw [up2_at]
      by_cases c : j = i
      · rw [if_pos c]
      · rw [if_neg c]; exact e4 j (by omega)
  unfold f_Mo_mergeNew
  rw [kk_64]
  exact k2 12 0 FU A (by omega) (by rw [FU_eq]; omega) (fun _ _ => rfl) (fun j hj => by omega)
end NM
