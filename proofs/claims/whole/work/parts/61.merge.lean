-- ===== the merge, both =====
def Sx (D1 D2 : Nat → Nat) (X Y Z : Tre) (s1 s2 : Pst) : Ent → Prop := accS (n2E D1 Z s2 (usd D1 D2 Y Z s1 s2 Y.1)) (accS (n1E D2 Y s1) (accS (oldE D1 D2 X Y Z s1 s2) (fun _ => False) X.1) Y.1) Z.1
theorem accS_all {P : Ent → Prop} {f : Nat → Option Ent} {S : Ent → Prop} (h1 : ∀ y, S y → P y) (h2 : ∀ i y, f i = some y → P y) : ∀ k y, accS f S k y → P y := by
  intro k
  induction k with
  | zero => exact h1
  | succ k ih =>
    intro y hy
    rcases hy with hy | hy
    · exact ih y hy
    · exact h2 k y hy
theorem cz8 {z : Nat} (hz : z = 0 ∨ z = 2) (b d : Bool) : cz (cz z b 1) d 4 < 8 := by
  rcases hz with rfl | rfl <;> cases b <;> cases d <;> decide
theorem Sx_8 {D1 D2 : Nat → Nat} {X Y Z : Tre} {s1 s2 : Pst} : ∀ y, Sx D1 D2 X Y Z s1 s2 y → y.2.2.1 < 8 := by
  refine accS_all (accS_all (accS_all (fun y h => h.elim) (fun i y e => ?_) X.1) (fun i y e => ?_) Y.1) (fun i y e => ?_) Z.1
  · unfold oldE at e
    split at e
    · cases e
    · split at e
      · cases e
      · cases e
        show cz (cz _ _ 1) _ 4 < 8
        refine cz8 ?_ _ _
        split
        · exact Or.inr rfl
        · exact Or.inl rfl
  · unfold n1E at e
    split at e
    · cases e; exact (by decide : 0 < 8)
    · cases e
  · unfold n2E at e
    split at e
    · cases e; exact (by decide : 0 < 8)
    · cases e
/-- the entries S, marked and in their order -/
def IsMg (S : Ent → Prop) (n : Nat) (d : Nat → Ent) : Prop := SoE d n ∧ (∀ i, i < n → VE (d i)) ∧ ∃ e m, InjE e m ∧ (∀ y, InE e m y ↔ S y) ∧ ∀ y, InE d n y ↔ InE (fun i => mrk (e i) (mt e m i)) m y
theorem IsMg_uniq {S : Ent → Prop} {n k : Nat} {d c : Nat → Ent} (h : IsMg S n d) (g : IsMg S k c) : n = k ∧ ∀ i, i < n → d i = c i := by
  obtain ⟨h1, h2, e, m, h3, h4, h5⟩ := h
  obtain ⟨g1, g2, r, q, g3, g4, g5⟩ := g
  refine So_uniq h1 g1 h2 g2 (fun y => ?_)
  rw [h5 y, g5 y]
  exact ⟨mrk_same h3 g3 (fun y => (h4 y).trans (g4 y).symm) y, mrk_same g3 h3 (fun y => (g4 y).trans (h4 y).symm) y⟩
theorem EntC.kept {A I A' I' : Nat → Nat → Int32} {n : Nat} {e : Nat → Ent} (h : EntC A I n e) (h1 : A' 57 = A 57) (h2 : A' 58 = A 58) (h3 : A' 59 = A 59) (h4 : A' 60 = A 60) (h5 : I' 56 4 = I 56 4) : EntC A' I' n e := by
  unfold EntC rowE at h ⊢
  rw [h1, h5, show A' (57 + 1) = A (57 + 1) from h2, show A' (57 + 2) = A (57 + 2) from h3, show A' (57 + 3) = A (57 + 3) from h4]
  exact h
theorem InvC0 {A I : Nat → Nat → Int32} : InvC A (up2 I 56 4 0) (fun _ => False) 0 0 := ⟨fun _ => (0, 0, 0, 0), ⟨up2_s _ _ _ _, by omega, fun i hi => by omega⟩, fun i j _ hj => by omega, fun y => ⟨fun ⟨i, hi, _⟩ => by omega, fun q => q.elim⟩, fun y hy => hy.elim⟩
section TC
variable {A I : Nat → Nat → Int32} {sw : Bool} {X Y Z : Tre} {s1 s2 : Pst} {f1 f2 : Nat → Option Nat} {n1 n2 : Nat} {st1 st2 : Nat → Nat} {D1 D2 : Nat → Nat}
theorem Merge_make (h : CxC A I sw X Y Z s1 s2 f1 f2 n1 n2 st1 st2) (v : Vx X Y Z s1 s2 f1 f2) (hD1 : D1 = dst f1 (rnd f1 f1 f2)) (hD2 : D2 = dst f2 (rnd f2 f1 f2)) : ∃ A' I' n d m cp, f_Merge_make (Wd A I sw) 56 3 34 44 = some (Wd A' I' sw) ∧ EntC A' I' n d ∧ IsMg (Sx D1 D2 X Y Z s1 s2) n d ∧ ClC A' I' d n m cp ∧ MgF A I A' I' := by
  have hX := h.1.2.1
  have hY := h.2.1.2.1
  have hZ := h.2.2.1.2.1
  have hDD := v.d
  rw [← hD1, ← hD2] at hDD
  have key : ∀ (k i f : Nat) (B J : Nat → Nat → Int32), i + k = X.1 → k < f → MgF A I B J → InvC B J (accS (oldE D1 D2 X Y Z s1 s2) (fun _ => False) i) (accN (oldE D1 D2 X Y Z s1 s2) 0 i) i → ∃ A' I' n d m cp, f_Merge_make_8 56 3 34 44 f (nI i) (Wd B J sw) = some (Wd A' I' sw) ∧ EntC A' I' n d ∧ IsMg (Sx D1 D2 X Y Z s1 s2) n d ∧ ClC A' I' d n m cp ∧ MgF A I A' I' := by
    intro k
    induction k with
    | zero =>
      intro i f B J e1 e2 e3 e4
      obtain ⟨f, rfl⟩ : ∃ g, f = g + 1 := ⟨f - 1, by omega⟩
      have hi : i = X.1 := by omega
      subst hi
      have cB := h.mg e3
      have b0 := accN_le (oldE D1 D2 X Y Z s1 s2) 0 X.1
      obtain ⟨B1, y1, y2, y3⟩ := Merge_findGoals (sw := sw) cB v hD1
      have m1 : MgF B J B1 J := ⟨fun a ha => y3 a (by omega), fun _ _ _ => rfl⟩
      have g1 : InvC B1 J (accS (oldE D1 D2 X Y Z s1 s2) (fun _ => False) X.1) (accN (oldE D1 D2 X Y Z s1 s2) 0 X.1) 100 := by
        obtain ⟨e, a1, a2, a3, a4⟩ := e4.kept (A' := B1) (I' := J) (y3 57 (by decide)) (y3 58 (by decide)) (y3 59 (by decide)) (y3 60 (by decide)) rfl
        exact ⟨e, a1, a2, a3, fun y hy => by have := a4 y hy; omega⟩
      obtain ⟨B2, J2, x1, x2, x3, x4⟩ := Merge_addNewOfOne (sw := sw) (cB.mg m1) v hD1 hD2 g1 (by omega) y2
      have b1 := accN_le (n1E D2 Y s1) (accN (oldE D1 D2 X Y Z s1 s2) 0 X.1) Y.1
      have cB2 := (cB.mg m1).mg x4
      obtain ⟨B3, J3, w1, w2, w3⟩ := Merge_addNewOfTwo (sw := sw) cB2 v hDD.1 x2 (by omega) x3
      obtain ⟨e, a1, a2, a3, a4⟩ := w2
      obtain ⟨B4, u1, u2, u3⟩ := Merge_markMeetings (sw := sw) a1 a2
      have hve : ∀ i, i < accN (n2E D1 Z s2 (usd D1 D2 Y Z s1 s2 Y.1)) (accN (n1E D2 Y s1) (accN (oldE D1 D2 X Y Z s1 s2) 0 X.1) Y.1) Z.1 → VE (e i) := fun i hi => (a1.2.2 i hi).2
      have hso := mrk_so a2 hve (fun i hi => Sx_8 (e i) ((a3 (e i)).mp ⟨i, hi, rfl⟩))
      obtain ⟨B5, J5, m, cp, t1, t2, t3, t4⟩ := Merge_gatherClashes (sw := sw) u2 hso
      refine ⟨B5, J5, _, _, m, cp, ?_, u2.kept (t3 57 (by decide) (by decide)) (t3 58 (by decide) (by decide)) (t3 59 (by decide) (by decide)) (t3 60 (by decide) (by decide)) (t4 56 4 (by decide)), ⟨hso, fun i hi => (u2.2.2 i hi).2, e, _, a2.inj, a3, fun _ => Iff.rfl⟩, t2, ?_⟩
      · rw [f_Merge_make_8, rr_3_0, sb, Tree_size (by decide) cB.1, sb, if_pos (Int32.le_refl _), y1, sb, x1, sb, rr_3_2, sb, w1, sb, u1, sb, t1, sb]
      · exact (((e3.tr m1).tr x4).tr w3).tr ⟨fun a ha => (t3 a (by omega) (by omega)).trans (u3 a (by omega)), fun a b ha => t4 a b (Or.inl ha)⟩
    | succ k ih =>
      intro i f B J e1 e2 e3 e4
      obtain ⟨f, rfl⟩ : ∃ g, f = g + 1 := ⟨f - 1, by omega⟩
      have cB := h.mg e3
      have b0 := accN_le (oldE D1 D2 X Y Z s1 s2) 0 i
      obtain ⟨B1, J1, y1, y2, y3⟩ := Merge_addOld (sw := sw) (i := i) cB v e4 (by omega) (by omega) (Nat.le_refl _)
      rw [← hD1, ← hD2] at y2
      rw [f_Merge_make_8, rr_3_0, sb, Tree_size (by decide) cB.1, sb, ifc (nI_leI (by omega) (by omega)), if_neg (by omega), y1, sb, add1]
      exact ih (i + 1) f B1 J1 (by omega) (by omega) (e3.tr y3.mg) y2
  unfold f_Merge_make
  rw [kk_56, ss_56_4, sb]
  exact key X.1 0 FU A _ (by omega) (by rw [FU_eq]; omega) ⟨fun _ _ => rfl, fun a b ha => up2_n ha⟩ InvC0
end TC
-- ===== the reference's merge =====
theorem EntM.kept {A I A' I' : Nat → Nat → Int32} {n : Nat} {e : Nat → Ent} (h : EntM A I n e) (h1 : A' 74 = A 74) (h2 : A' 75 = A 75) (h3 : A' 76 = A 76) (h4 : A' 77 = A 77) (h5 : I' 64 20 = I 64 20) : EntM A' I' n e := by
  unfold EntM rowE at h ⊢
  rw [h1, h5, show A' (74 + 1) = A (74 + 1) from h2, show A' (74 + 2) = A (74 + 2) from h3, show A' (74 + 3) = A (74 + 3) from h4]
  exact h
theorem mrk_inj {e : Nat → Ent} {n : Nat} (h : InjE e n) (h8 : ∀ i, i < n → (e i).2.2.1 < 8) : InjE (fun i => mrk (e i) (mt e n i)) n := by
  intro i j hij hj q
  dsimp only at q
  unfold mrk at q
  have q1 : (e i).1 = (e j).1 := congrArg (fun x => x.1) q
  have q2 : (e i).2.1 = (e j).2.1 := congrArg (fun x => x.2.1) q
  have q3 : cz (e i).2.2.1 (mt e n i) 8 = cz (e j).2.2.1 (mt e n j) 8 := congrArg (fun x => x.2.2.1) q
  have q4 : (e i).2.2.2 = (e j).2.2.2 := congrArg (fun x => x.2.2.2) q
  have m1 : mt e n i = true := mt_iff.mpr ⟨j, hj, by omega, q1.symm⟩
  have m2 : mt e n j = true := mt_iff.mpr ⟨i, by omega, by omega, q1⟩
  rw [m1, m2] at q3
  have z1 : cz (e i).2.2.1 true 8 = (e i).2.2.1 + 8 := or8 _ (h8 i (by omega))
  have z2 : cz (e j).2.2.1 true 8 = (e j).2.2.1 + 8 := or8 _ (h8 j hj)
  rw [z1, z2] at q3
  exact h i j hij hj (Prod.ext q1 (Prod.ext q2 (Prod.ext (by show (e i).2.2.1 = (e j).2.2.1; omega) q4)))
theorem InvM0 {A I : Nat → Nat → Int32} : InvM A (up2 I 64 20 0) (fun _ => False) 0 0 := ⟨fun _ => (0, 0, 0, 0), ⟨up2_s _ _ _ _, by omega, fun i hi => by omega⟩, fun i j _ hj => by omega, fun y => ⟨fun ⟨i, hi, _⟩ => by omega, fun q => q.elim⟩, fun y hy => hy.elim⟩
section TM
variable {A I : Nat → Nat → Int32} {sw : Bool} {X Y Z : Tre} {lim : Nat} {s1 s2 : Pst} {f1 f2 : Nat → Option Nat} {D1 D2 : Nat → Nat}
theorem Mo_merge (h0 : MTree A 0 X) (h1 : MTree A 1 Y) (h2 : MTree A 2 Z) (hl : I 64 3 = nI lim) (hl2 : lim ≤ 100) (v : Vx X Y Z s1 s2 f1 f2) (es1 : s1 = prs lim X Y) (es2 : s2 = prs lim X Z) (ef1 : f1 = mv X Y s1) (ef2 : f2 = mv X Z s2) (hD1 : D1 = dst f1 (rnd f1 f1 f2)) (hD2 : D2 = dst f2 (rnd f2 f1 f2)) : ∃ A' I' n d, f_Mo_merge (Wd A I sw) 64 = some (Wd A' I' sw) ∧ EntM A' I' n d ∧ IsMg (Sx D1 D2 X Y Z s1 s2) n d ∧ (∀ a, (a < 69 ∨ 79 ≤ a) → A' a = A a) ∧ ∀ a b, (a ≠ 64 ∨ (b ≠ 20 ∧ b ≠ 21)) → I' a b = I a b := by
  have hX := h0.2.1
  obtain ⟨B0, p1, p2, p3, p4, p5, p6⟩ := Mo_findBoth (sw := sw) h0 h1 h2 v.1 v.2.1 v.2.2.1 hl hl2
  rw [← es1] at p2 p3
  rw [← es2] at p4 p5
  rw [← ef1] at p3
  rw [← ef2] at p5
  have hc : CxM B0 X Y Z s1 s2 f1 f2 := by
    refine ⟨?_, ?_, ?_, p2, p4, p3, p5⟩ <;> unfold MTree <;> rw [p6 65 (by decide) (by decide) (by decide) (by decide), p6 66 (by decide) (by decide) (by decide) (by decide), p6 67 (by decide) (by decide) (by decide) (by decide)]
    · exact h0
    · exact h1
    · exact h2
  have key : ∀ (k i f : Nat) (B J : Nat → Nat → Int32), i + k = X.1 → k < f → MwF B0 (up2 I 64 20 0) B J → InvM B J (accS (oldE D1 D2 X Y Z s1 s2) (fun _ => False) i) (accN (oldE D1 D2 X Y Z s1 s2) 0 i) i → ∃ A' I' n d, f_Mo_merge_11 64 f (nI i) (Wd B J sw) = some (Wd A' I' sw) ∧ EntM A' I' n d ∧ IsMg (Sx D1 D2 X Y Z s1 s2) n d ∧ MwF B0 (up2 I 64 20 0) A' I' := by
    intro k
    induction k with
    | zero =>
      intro i f B J e1 e2 e3 e4
      obtain ⟨f, rfl⟩ : ∃ g, f = g + 1 := ⟨f - 1, by omega⟩
      have hi : i = X.1 := by omega
      subst hi
      have cB := hc.kept e3.lo
      have b0 := accN_le (oldE D1 D2 X Y Z s1 s2) 0 X.1
      have g1 : InvM B J (accS (oldE D1 D2 X Y Z s1 s2) (fun _ => False) X.1) (accN (oldE D1 D2 X Y Z s1 s2) 0 X.1) 100 := by
        obtain ⟨e, a1, a2, a3, a4⟩ := e4
        exact ⟨e, a1, a2, a3, fun y hy => by have := a4 y hy; omega⟩
      obtain ⟨B1, J1, y1, y2, y3⟩ := Mo_mergeNew (sw := sw) cB v hD1 hD2 g1 (by omega)
      obtain ⟨e, a1, a2, a3, a4⟩ := y2
      obtain ⟨B2, x1, x2, x3⟩ := Mo_meetAll (sw := sw) a1
      have hij := mrk_inj a2 (fun i hi => Sx_8 (e i) ((a3 (e i)).mp ⟨i, hi, rfl⟩))
      obtain ⟨B3, d, w1, w2, w3, w4, w5⟩ := Mo_sortAll (sw := sw) x2 hij
      refine ⟨B3, J1, _, d, ?_, w2, ⟨w3, fun i hi => (w2.2.2 i hi).2, e, _, a2, a3, w4⟩, (e3.tr y3).tr ⟨fun a ha => (w5 a (by omega) (by omega) (by omega) (by omega)).trans (x3 a (by omega)), fun _ _ _ => rfl⟩⟩
      rw [f_Mo_merge_11, rr_64_2, sb, Mo_n0 cB.1, sb, if_pos (Int32.le_refl _), y1, sb, x1, sb, w1, sb]
    | succ k ih =>
      intro i f B J e1 e2 e3 e4
      obtain ⟨f, rfl⟩ : ∃ g, f = g + 1 := ⟨f - 1, by omega⟩
      have cB := hc.kept e3.lo
      have b0 := accN_le (oldE D1 D2 X Y Z s1 s2) 0 i
      obtain ⟨B1, J1, y1, y2, y3⟩ := Mo_mergeOld (sw := sw) (i := i) cB v e4 (by omega) (by omega) (Nat.le_refl _)
      rw [← hD1, ← hD2] at y2
      rw [f_Mo_merge_11, rr_64_2, sb, Mo_n0 cB.1, sb, ifc (nI_leI (by omega) (by omega)), if_neg (by omega), y1, sb, add1]
      exact ih (i + 1) f B1 J1 (by omega) (by omega) (e3.tr y3.mw) y2
  obtain ⟨A', I', n, d, z1, z2, z3, z4⟩ := key X.1 0 FU B0 _ (by omega) (by rw [FU_eq]; omega) MwF.rf InvM0
  refine ⟨A', I', n, d, ?_, z2, z3, fun a ha => (z4.1 a (by omega)).trans (p6 a (by omega) (by omega) (by omega) (by omega)), fun a b hab => (z4.2 a b hab).trans ?_⟩
  · unfold f_Mo_merge
    rw [kk_64, p1, sb, ss_64_20, sb]
    exact z1
  · by_cases q : a = 64
    · exact up2_m (by omega)
    · exact up2_n q
end TM
