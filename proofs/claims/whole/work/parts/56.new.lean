-- ===== files that are new on a side =====
def nP (D : Nat → Nat) (Y : Tre) (i : Nat) : Nat := 10 * D (Y.2.1 i / 10) + Y.2.1 i % 10
def twn (D1 : Nat → Nat) (Z : Tre) (s2 : Pst) (u : Nat → Bool) (p c : Nat) : Option Nat := fnd (fun j => (decide (s2.2.2 j = none) && !(u j)) && (decide (nP D1 Z j = p) && decide (Z.2.2 j = c))) 0 Z.1
def usd (D1 D2 : Nat → Nat) (Y Z : Tre) (s1 s2 : Pst) : Nat → Nat → Bool
  | 0 => fun _ => false
  | i + 1 => if s1.2.2 i = none then (match twn D1 Z s2 (usd D1 D2 Y Z s1 s2 i) (nP D2 Y i) (Y.2.2 i) with
    | some j => fun q => if q = j then true else usd D1 D2 Y Z s1 s2 i q
    | none => usd D1 D2 Y Z s1 s2 i) else usd D1 D2 Y Z s1 s2 i
def n1E (D2 : Nat → Nat) (Y : Tre) (s1 : Pst) (i : Nat) : Option Ent := if s1.2.2 i = none then some (nP D2 Y i, Y.2.2 i, 0, 100 + i) else none
def n2E (D1 : Nat → Nat) (Z : Tre) (s2 : Pst) (u : Nat → Bool) (j : Nat) : Option Ent := if s2.2.2 j = none ∧ u j = false then some (nP D1 Z j, Z.2.2 j, 0, 200 + j) else none
def accS (f : Nat → Option Ent) (S : Ent → Prop) : Nat → Ent → Prop
  | 0 => S
  | i + 1 => addS (accS f S i) (f i)
def accN (f : Nat → Option Ent) (n : Nat) : Nat → Nat
  | 0 => n
  | i + 1 => accN f n i + cO (f i)
theorem cO_le (o : Option Ent) : cO o ≤ 1 := by
  cases o
  · exact Nat.zero_le _
  · exact Nat.le_refl _
theorem accN_le (f : Nat → Option Ent) (n : Nat) : ∀ i, accN f n i ≤ n + i := by
  intro i
  induction i with
  | zero => exact Nat.le_refl _
  | succ i ih => rw [accN]; have := cO_le (f i); omega
theorem nP_v {D : Nat → Nat} (hD : VD D) {Y : Tre} (v : VT Y) {i : Nat} (hi : i < Y.1) : vP (nP D Y i) = true := by
  have h := vP_d (v.2.1 i hi).1
  exact vP_mk (hD _ h.2.1 h.1) h.2.2
theorem nP_i {D : Nat → Nat} {Y : Tre} {i : Nat} : (10 : Int32) * nI (D (Y.2.1 i / 10)) + nI (Y.2.1 i % 10) = nI (nP D Y i) := by
  unfold nP
  rw [show (10 : Int32) * nI (D (Y.2.1 i / 10)) = nI (10 * D (Y.2.1 i / 10)) from pk_mul 10 _, nI_add]
theorem InvC.kept {A I A' I' : Nat → Nat → Int32} {S : Ent → Prop} {n fr : Nat} (h : InvC A I S n fr) (h1 : A' 57 = A 57) (h2 : A' 58 = A 58) (h3 : A' 59 = A 59) (h4 : A' 60 = A 60) (h5 : I' 56 4 = I 56 4) : InvC A' I' S n fr := by
  unfold InvC EntC rowE at h ⊢
  rw [h1, h5, show A' (57 + 1) = A (57 + 1) from h2, show A' (57 + 2) = A (57 + 2) from h3, show A' (57 + 3) = A (57 + 3) from h4]
  exact h
theorem newPath_C {A I : Nat → Nat → Int32} {sw : Bool} {D : Nat → Nat} {m p : Nat} (hp : vP p = true) (hf : f_Moves_follow (Wd A I sw) m (nI (p / 10)) = some (nI (D (p / 10)))) : f_Merge_newPath (Wd A I sw) (nI p) m = some (nI (10 * D (p / 10) + p % 10)) := by
  have hl := vP_lt hp
  unfold f_Merge_newPath f_Letters_folderOf f_Letters_nameOf
  rw [div10 (by omega), sb, hf, sb, rem10 (by omega), sb, show (10 : Int32) * nI (D (p / 10)) = nI (10 * D (p / 10)) from pk_mul 10 _, nI_add]
def GoC (A : Nat → Nat → Int32) (D1 : Nat → Nat) (Z : Tre) (s2 : Pst) (u : Nat → Bool) : Prop := ∀ j, j < Z.1 → A 63 j = if s2.2.2 j = none ∧ u j = false then nI (nP D1 Z j) else (-6 : Int32)
section NC
variable {A I : Nat → Nat → Int32} {sw : Bool} {X Y Z : Tre} {s1 s2 : Pst} {f1 f2 : Nat → Option Nat} {n1 n2 : Nat} {st1 st2 : Nat → Nat} {D1 D2 : Nat → Nat}
theorem Merge_findGoals (h : CxC A I sw X Y Z s1 s2 f1 f2 n1 n2 st1 st2) (v : Vx X Y Z s1 s2 f1 f2) (hD1 : D1 = dst f1 (rnd f1 f1 f2)) : ∃ A', f_Merge_findGoals (Wd A I sw) 56 3 34 44 = some (Wd A' I sw) ∧ GoC A' D1 Z s2 (fun _ => false) ∧ ∀ a, a ≠ 63 → A' a = A a := by
  have hZ := h.2.2.1.2.1
  have key : ∀ (k j f : Nat) (B : Nat → Nat → Int32), j + k = Z.1 → k < f → (∀ a, a ≠ 63 → B a = A a) → (∀ q, q < j → B 63 q = if s2.2.2 q = none ∧ (fun _ => false) q = false then nI (nP D1 Z q) else (-6 : Int32)) → ∃ A', f_Merge_findGoals_3 56 3 34 44 f (nI j) (Wd B I sw) = some (Wd A' I sw) ∧ GoC A' D1 Z s2 (fun _ => false) ∧ ∀ a, a ≠ 63 → A' a = A a := by
    intro k
    induction k with
    | zero =>
      intro j f B e1 e2 e3 e4
      obtain ⟨f, rfl⟩ : ∃ g, f = g + 1 := ⟨f - 1, by omega⟩
      have hj : j = Z.1 := by omega
      subst hj
      have cB := h.mg (A' := B) (I' := I) ⟨fun a ha => e3 a (by omega), fun _ _ _ => rfl⟩
      refine ⟨B, ?_, e4, e3⟩
      rw [f_Merge_findGoals_3, rr_3_2, sb, Tree_size (isT2 sw) cB.2.2.1, sb, if_pos (Int32.le_refl _)]
    | succ k ih =>
      intro j f B e1 e2 e3 e4
      obtain ⟨f, rfl⟩ : ∃ g, f = g + 1 := ⟨f - 1, by omega⟩
      have cB := h.mg (A' := B) (I' := I) ⟨fun a ha => e3 a (by omega), fun _ _ _ => rfl⟩
      have hF := cB.fc v
      have hvp := (v.2.2.1.2.1 j (by omega)).1
      have hvd := vP_d hvp
      have hnp : f_Merge_newPath (Wd B I sw) (nI (Z.2.1 j)) 40 = some (nI (nP D1 Z j)) := by
        subst hD1
        exact newPath_C hvp (hF _ hvd.2.1 hvd.1).1
      have hs2 := isNone2 v.2.2.2.2.1 v.1.1 j
      have e63 : ((if (if o2i (s2.2.2 j) = (-6 : Int32) then ((1 : Int32)) else ((0 : Int32))) = (0 : Int32) then some (-6 : Int32) else some (nI (nP D1 Z j))) : Option Int32) = some (if s2.2.2 j = none ∧ (fun _ => false) j = false then nI (nP D1 Z j) else (-6 : Int32)) := by
        rw [ifc hs2]
        by_cases c : s2.2.2 j = none
        · rw [if_pos c, if_neg (by decide), if_pos ⟨c, rfl⟩]
        · rw [if_neg c, if_pos rfl, if_neg (fun q => c q.1)]
      rw [f_Merge_findGoals_3, rr_3_2, sb, Tree_size (isT2 sw) cB.2.2.1, sb, ifc (nI_leI (by omega) (by omega)), if_neg (by omega), rr_44_0, sb, Pairs_sourceOf (by decide) cB.2.2.2.2.1 (by omega), sb, rr_56_8, sb, sb, Tree_pathAt (isT2 sw) cB.2.2.1 (by omega), sb, rr_34_1, sb, hnp, sb, e63, sb, sa_63 (by omega), sb, add1]
      refine ih (j + 1) f _ (by omega) (by omega) (fun a ha => by rw [up2_fn ha]; exact e3 a ha) (fun q hq => ?_)
      rw [up2_at]
      by_cases c : q = j
      · rw [if_pos c, c]
      · rw [if_neg c]
        exact e4 q (by omega)
  unfold f_Merge_findGoals
  rw [kk_56]
  exact key Z.1 0 FU A (by omega) (by rw [FU_eq]; omega) (fun _ _ => rfl) (fun q hq => by omega)
theorem Merge_takeSame {u : Nat → Bool} (hr : TreeIs A I (RF sw 3 2) Z) (vz : VT Z) (hD : VD D1) (hG : GoC A D1 Z s2 u) {p c : Nat} (hp : p < 2 ^ 31) (hc : c < 2 ^ 31) : ∃ A', f_Merge_takeSame (Wd A I sw) 56 (RF sw 3 2) (nI p) (nI c) = some (Wd A' I sw) ∧ GoC A' D1 Z s2 (match twn D1 Z s2 u p c with | some j => fun q => if q = j then true else u q | none => u) ∧ ∀ a, a ≠ 63 → A' a = A a := by
  have hZ := hr.2.1
  have key : ∀ (k j f : Nat), j + k = Z.1 → k < f → ∃ A', f_Merge_takeSame_3 (Wd A I sw) 56 (RF sw 3 2) (nI p) (nI c) f (nI j) = some (Wd A' I sw) ∧ GoC A' D1 Z s2 (match fnd (fun j => (decide (s2.2.2 j = none) && !(u j)) && (decide (nP D1 Z j = p) && decide (Z.2.2 j = c))) j k with | some j => fun q => if q = j then true else u q | none => u) ∧ ∀ a, a ≠ 63 → A' a = A a := by
    intro k
    induction k with
    | zero =>
      intro j f e1 e2
      obtain ⟨f, rfl⟩ : ∃ g, f = g + 1 := ⟨f - 1, by omega⟩
      refine ⟨A, ?_, hG, fun _ _ => rfl⟩
      rw [f_Merge_takeSame_3, Tree_size (isT2 sw) hr, sb, ifc (nI_leI (by omega) (by omega)), if_pos (by omega)]
    | succ k ih =>
      intro j f e1 e2
      obtain ⟨f, rfl⟩ : ∃ g, f = g + 1 := ⟨f - 1, by omega⟩
      have hnp := vP_lt (nP_v hD vz (i := j) (by omega))
      have hcj := vz.c (i := j) (by omega)
      rw [f_Merge_takeSame_3, Tree_size (isT2 sw) hr, sb, ifc (nI_leI (by omega) (by omega)), if_neg (by omega), rr_56_8, sb, ga_63 (by omega), sb, hG j (by omega), Tree_contentAt (isT2 sw) hr (by omega), sb, ifc (nI_eq (by omega) hc), sb, sa_63 (by omega), sb, add1, fnd]
      obtain ⟨A', z1, z2, z3⟩ := ih (j + 1) f (by omega) (by omega)
      by_cases c1 : s2.2.2 j = none ∧ u j = false
      · rw [if_pos c1, ifc (nI_eq (by omega) hp)]
        by_cases c2 : nP D1 Z j = p
        · by_cases c3 : Z.2.2 j = c
          · have eb : ((decide (s2.2.2 j = none) && !(u j)) && (decide (nP D1 Z j = p) && decide (Z.2.2 j = c))) = true := by simp [c1.1, c1.2, c2, c3]
            rw [if_pos c2, if_pos c3]
            simp only [eb, if_true]
            refine ⟨_, rfl, fun q hq => ?_, fun a ha => up2_fn ha⟩
            rw [up2_at]
            by_cases c4 : q = j
            · rw [if_pos c4, if_neg (fun z => by have := z.2; dsimp only at this; rw [if_pos c4] at this; cases this)]
            · rw [if_neg c4, hG q hq]
              simp only [if_neg c4]
          · have eb : ((decide (s2.2.2 j = none) && !(u j)) && (decide (nP D1 Z j = p) && decide (Z.2.2 j = c))) = false := by simp [c3]
            rw [if_pos c2, if_neg c3]
            simp only [eb, Bool.false_eq_true, if_false]
            exact ⟨A', z1, z2, z3⟩
        · have eb : ((decide (s2.2.2 j = none) && !(u j)) && (decide (nP D1 Z j = p) && decide (Z.2.2 j = c))) = false := by simp [c2]
          rw [if_neg c2]
          simp only [eb, Bool.false_eq_true, if_false]
          exact ⟨A', z1, z2, z3⟩
      · have eb : ((decide (s2.2.2 j = none) && !(u j)) && (decide (nP D1 Z j = p) && decide (Z.2.2 j = c))) = false := by
          rw [Bool.and_eq_false_iff]
          refine Or.inl ?_
          cases hu : u j with
          | true => simp
          | false =>
            have : ¬ s2.2.2 j = none := fun q => c1 ⟨q, hu⟩
            simp [this]
        rw [if_neg c1, if_neg (fun q => nI_ne6 hp q.symm)]
        simp only [eb, Bool.false_eq_true, if_false]
        exact ⟨A', z1, z2, z3⟩
  unfold f_Merge_takeSame twn
  rw [kk_56]
  exact key Z.1 0 FU (by omega) (by rw [FU_eq]; omega)
theorem Merge_addNewOfOne {S : Ent → Prop} {n : Nat} (h : CxC A I sw X Y Z s1 s2 f1 f2 n1 n2 st1 st2) (v : Vx X Y Z s1 s2 f1 f2) (hD1 : D1 = dst f1 (rnd f1 f1 f2)) (hD2 : D2 = dst f2 (rnd f2 f1 f2)) (g : InvC A I S n 100) (hn : n ≤ 12) (hG : GoC A D1 Z s2 (fun _ => false)) : ∃ A' I', f_Merge_addNewOfOne (Wd A I sw) 56 3 34 44 = some (Wd A' I' sw) ∧ InvC A' I' (accS (n1E D2 Y s1) S Y.1) (accN (n1E D2 Y s1) n Y.1) 200 ∧ GoC A' D1 Z s2 (usd D1 D2 Y Z s1 s2 Y.1) ∧ MgF A I A' I' := by
  have hY := h.2.1.2.1
  have hZ := h.2.2.1.2.1
  have hDD := v.d
  rw [← hD1, ← hD2] at hDD
  have key : ∀ (k i f : Nat) (B J : Nat → Nat → Int32), i + k = Y.1 → k < f → MgF A I B J → InvC B J (accS (n1E D2 Y s1) S i) (accN (n1E D2 Y s1) n i) (100 + i) → GoC B D1 Z s2 (usd D1 D2 Y Z s1 s2 i) → ∃ A' I', f_Merge_addNewOfOne_3 56 3 34 44 f (nI i) (Wd B J sw) = some (Wd A' I' sw) ∧ InvC A' I' (accS (n1E D2 Y s1) S Y.1) (accN (n1E D2 Y s1) n Y.1) 200 ∧ GoC A' D1 Z s2 (usd D1 D2 Y Z s1 s2 Y.1) ∧ MgF A I A' I' := by
    intro k
    induction k with
    | zero =>
      intro i f B J e1 e2 e3 e4 e5
      obtain ⟨f, rfl⟩ : ∃ g, f = g + 1 := ⟨f - 1, by omega⟩
      have hi : i = Y.1 := by omega
      subst hi
      have cB := h.mg e3
      refine ⟨B, J, ?_, ?_, e5, e3⟩
      · rw [f_Merge_addNewOfOne_3, rr_3_1, sb, Tree_size (isT1 sw) cB.2.1, sb, if_pos (Int32.le_refl _)]
      · obtain ⟨e, a1, a2, a3, a4⟩ := e4
        exact ⟨e, a1, a2, a3, fun y hy => by have := a4 y hy; omega⟩
    | succ k ih =>
      intro i f B J e1 e2 e3 e4 e5
      obtain ⟨f, rfl⟩ : ∃ g, f = g + 1 := ⟨f - 1, by omega⟩
      have cB := h.mg e3
      have hF := cB.fc v
      rw [← hD1, ← hD2] at hF
      have hvp := (v.2.1.2.1 i (by omega)).1
      have hvc := (v.2.1.2.1 i (by omega)).2
      have hvd := vP_d hvp
      have hcl := vC_lt hvc
      have hnv := nP_v hDD.2 v.2.1 (i := i) (by omega)
      have hnl := vP_lt hnv
      have hnp : f_Merge_newPath (Wd B J sw) (nI (Y.2.1 i)) 50 = some (nI (nP D2 Y i)) := newPath_C hvp (hF _ hvd.2.1 hvd.1).2
      have hs1 := isNone2 v.2.2.2.1 v.1.1 i
      rw [f_Merge_addNewOfOne_3, rr_3_1, sb, Tree_size (isT1 sw) cB.2.1, sb, ifc (nI_leI (by omega) (by omega)), if_neg (by omega), rr_34_0, sb, Pairs_sourceOf (by decide) cB.2.2.2.1 (by omega), sb, ifc hs1, add1]
      by_cases c : s1.2.2 i = none
      · obtain ⟨B1, y1, y2, y3⟩ := Merge_takeSame (s2 := s2) (p := nP D2 Y i) (c := Y.2.2 i) cB.2.2.1 v.2.2.1 hDD.1 e5 (by omega) (by omega)
        have eN : n1E D2 Y s1 i = some (nP D2 Y i, Y.2.2 i, 0, 100 + i) := by unfold n1E; rw [if_pos c]
        have hb := accN_le (n1E D2 Y s1) n i
        have g1 : InvC B1 J (accS (n1E D2 Y s1) S i) (accN (n1E D2 Y s1) n i) (100 + i) := e4.kept (y3 57 (by decide)) (y3 58 (by decide)) (y3 59 (by decide)) (y3 60 (by decide)) rfl
        obtain ⟨B2, J2, w1, w2, w3⟩ := g1.add (sw := sw) (x := (nP D2 Y i, Y.2.2 i, 0, 100 + i)) ⟨hnv, hvc, (by decide : 0 < 16), (by show 100 + i < 300; omega)⟩ (by omega) (Nat.le_refl _)
        have w1' : f_Merge_add (Wd B1 J sw) 56 (nI (nP D2 Y i)) (nI (Y.2.2 i)) (0 : Int32) (nI (100 + i)) = some (Wd B2 J2 sw) := w1
        rw [if_pos c, sb, Tree_pathAt (isT1 sw) cB.2.1 (by omega), sb, rr_44_1, sb, hnp, sb, sb, Tree_contentAt (isT1 sw) cB.2.1 (by omega), sb, rr_3_2, sb, y1, sb, show (100 : Int32) + nI i = nI (100 + i) from nI_add 100 i, w1', sb, sb]
        refine ih (i + 1) f B2 J2 (by omega) (by omega) ((e3.tr ⟨fun a ha => y3 a (by omega), fun _ _ _ => rfl⟩).tr w3.mg) ?_ ?_
        · rw [accS, accN, eN]
          exact w2
        · rw [usd, if_pos c]
          intro q hq
          rw [w3.1 63 (by decide) (by decide) (by decide) (by decide)]
          exact y2 q hq
      · have eN : n1E D2 Y s1 i = none := by unfold n1E; rw [if_neg c]
        rw [if_neg c, sb]
        refine ih (i + 1) f B J (by omega) (by omega) e3 ?_ ?_
        · rw [accS, accN]
          exact e4.skip eN (by omega)
        · rw [usd, if_neg c]
          exact e5
  unfold f_Merge_addNewOfOne
  rw [kk_56]
  exact key Y.1 0 FU A I (by omega) (by rw [FU_eq]; omega) MgF.rf g hG
theorem Merge_addNewOfTwo {S : Ent → Prop} {n : Nat} {u : Nat → Bool} (h : CxC A I sw X Y Z s1 s2 f1 f2 n1 n2 st1 st2) (v : Vx X Y Z s1 s2 f1 f2) (hD : VD D1) (g : InvC A I S n 200) (hn : n ≤ 24) (hG : GoC A D1 Z s2 u) : ∃ A' I', f_Merge_addNewOfTwo (Wd A I sw) 56 (RF sw 3 2) = some (Wd A' I' sw) ∧ InvC A' I' (accS (n2E D1 Z s2 u) S Z.1) (accN (n2E D1 Z s2 u) n Z.1) 300 ∧ MgF A I A' I' := by
  have hZ := h.2.2.1.2.1
  have key : ∀ (k i f : Nat) (B J : Nat → Nat → Int32), i + k = Z.1 → k < f → MgF A I B J → B 63 = A 63 → InvC B J (accS (n2E D1 Z s2 u) S i) (accN (n2E D1 Z s2 u) n i) (200 + i) → ∃ A' I', f_Merge_addNewOfTwo_2 56 (RF sw 3 2) f (nI i) (Wd B J sw) = some (Wd A' I' sw) ∧ InvC A' I' (accS (n2E D1 Z s2 u) S Z.1) (accN (n2E D1 Z s2 u) n Z.1) 300 ∧ MgF A I A' I' := by
    intro k
    induction k with
    | zero =>
      intro i f B J e1 e2 e3 e5 e4
      obtain ⟨f, rfl⟩ : ∃ g, f = g + 1 := ⟨f - 1, by omega⟩
      have hi : i = Z.1 := by omega
      subst hi
      have cB := h.mg e3
      refine ⟨B, J, ?_, ?_, e3⟩
      · rw [f_Merge_addNewOfTwo_2, Tree_size (isT2 sw) cB.2.2.1, sb, if_pos (Int32.le_refl _)]
      · obtain ⟨e, a1, a2, a3, a4⟩ := e4
        exact ⟨e, a1, a2, a3, fun y hy => by have := a4 y hy; omega⟩
    | succ k ih =>
      intro i f B J e1 e2 e3 e5 e4
      obtain ⟨f, rfl⟩ : ∃ g, f = g + 1 := ⟨f - 1, by omega⟩
      have cB := h.mg e3
      have hvc := (v.2.2.1.2.1 i (by omega)).2
      have hnv := nP_v hD v.2.2.1 (i := i) (by omega)
      have hnl := vP_lt hnv
      rw [f_Merge_addNewOfTwo_2, Tree_size (isT2 sw) cB.2.2.1, sb, ifc (nI_leI (by omega) (by omega)), if_neg (by omega), rr_56_8, sb, ga_63 (by omega), sb, e5, hG i (by omega), add1]
      by_cases c : s2.2.2 i = none ∧ u i = false
      · have eN : n2E D1 Z s2 u i = some (nP D1 Z i, Z.2.2 i, 0, 200 + i) := by unfold n2E; rw [if_pos c]
        have hb := accN_le (n2E D1 Z s2 u) n i
        obtain ⟨B2, J2, w1, w2, w3⟩ := e4.add (sw := sw) (x := (nP D1 Z i, Z.2.2 i, 0, 200 + i)) ⟨hnv, hvc, (by decide : 0 < 16), (by show 200 + i < 300; omega)⟩ (by omega) (Nat.le_refl _)
        have w1' : f_Merge_add (Wd B J sw) 56 (nI (nP D1 Z i)) (nI (Z.2.2 i)) (0 : Int32) (nI (200 + i)) = some (Wd B2 J2 sw) := w1
        rw [if_pos c, if_neg (nI_ne6 (by omega)), sb, ga_63 (by omega), sb, e5, hG i (by omega), if_pos c, Tree_contentAt (isT2 sw) cB.2.2.1 (by omega), sb, show (200 : Int32) + nI i = nI (200 + i) from nI_add 200 i, w1', sb, sb]
        refine ih (i + 1) f B2 J2 (by omega) (by omega) (e3.tr w3.mg) ((w3.1 63 (by decide) (by decide) (by decide) (by decide)).trans e5) ?_
        rw [accS, accN, eN]
        exact w2
      · have eN : n2E D1 Z s2 u i = none := by unfold n2E; rw [if_neg c]
        rw [if_neg c, if_pos rfl, sb]
        refine ih (i + 1) f B J (by omega) (by omega) e3 e5 ?_
        rw [accS, accN]
        exact e4.skip eN (by omega)
  unfold f_Merge_addNewOfTwo
  rw [kk_56]
  exact key Z.1 0 FU A I (by omega) (by rw [FU_eq]; omega) MgF.rf rfl g
end NC
