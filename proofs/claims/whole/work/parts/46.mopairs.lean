-- ===== the reference's pairs =====
def MPairs (A : Nat → Nat → Int32) (t : Nat) (s : Pst) : Prop := ∀ i, i < 12 → A 69 (12 * t + i) = o2i (s.1 i) ∧ A 70 (12 * t + i) = o2i (s.2.1 i) ∧ A 71 (12 * t + i) = o2i (s.2.2 i)
/-- only the reference's pairs of the side t were changed -/
def MPF (t : Nat) (A A' : Nat → Nat → Int32) : Prop := (∀ a, a ≠ 69 → a ≠ 70 → a ≠ 71 → A' a = A a) ∧ ∀ j, (j < 12 * t ∨ 12 * t + 12 ≤ j) → A' 69 j = A 69 j ∧ A' 70 j = A 70 j ∧ A' 71 j = A 71 j
theorem MPF.rf {t : Nat} {A : Nat → Nat → Int32} : MPF t A A := ⟨fun _ _ _ _ => rfl, fun _ _ => ⟨rfl, rfl, rfl⟩⟩
theorem MPF.tr {t : Nat} {A B C : Nat → Nat → Int32} (h : MPF t A B) (g : MPF t B C) : MPF t A C := by
  refine ⟨fun a h1 h2 h3 => (g.1 a h1 h2 h3).trans (h.1 a h1 h2 h3), fun j hj => ?_⟩
  obtain ⟨a1, a2, a3⟩ := h.2 j hj
  obtain ⟨b1, b2, b3⟩ := g.2 j hj
  exact ⟨b1.trans a1, b2.trans a2, b3.trans a3⟩
theorem MPF.tree {t u : Nat} {A A' : Nat → Nat → Int32} {X : Tre} (f : MPF t A A') (h : MTree A u X) : MTree A' u X := by
  unfold MTree
  rw [f.1 65 (by decide) (by decide) (by decide), f.1 66 (by decide) (by decide) (by decide), f.1 67 (by decide) (by decide) (by decide)]
  exact h
theorem MPF.other {t u : Nat} {A A' : Nat → Nat → Int32} {s : Pst} (f : MPF t A A') (hne : u ≠ t) (h : MPairs A u s) : MPairs A' u s := by
  intro i hi
  obtain ⟨a1, a2, a3⟩ := f.2 (12 * u + i) (by omega)
  rw [a1, a2, a3]
  exact h i hi
section MP
variable {A I : Nat → Nat → Int32} {sw : Bool} {t lim : Nat} {X Y : Tre} {s : Pst}
theorem Mo_join (ht : t < 3) (h : MPairs A t s) {i j w : Nat} (hi : i < 12) (hj : j < 12) : ∃ A', f_Mo_join (Wd A I sw) 64 (nI t) (nI i) (nI j) (nI w) = some (Wd A' I sw) ∧ MPairs A' t (joinP s i j w) ∧ MPF t A A' := by
  refine ⟨up2 (up2 (up2 A 69 (12 * t + i) (nI j)) 70 (12 * t + i) (nI w)) 71 (12 * t + j) (nI i), ?_, fun k hk => ?_, ⟨fun a h1 h2 h3 => ?_, fun k hk => ?_⟩⟩
  · unfold f_Mo_join
    rw [kk_64, rr_64_11, sb, mix, sa_69 (by omega), sb, rr_64_12, sb, sa_70 (by omega), sb, rr_64_13, sb, mix, sa_71 (by omega), sb]
  · obtain ⟨h1, h2, h3⟩ := h k hk
    simp only [up2_at, up2_n (show 69 ≠ 70 by omega), up2_n (show 69 ≠ 71 by omega), up2_n (show 70 ≠ 71 by omega), up2_n (show 70 ≠ 69 by omega), up2_n (show 71 ≠ 69 by omega), up2_n (show 71 ≠ 70 by omega), h1, h2, h3, joinP, upO, show (12 * t + k = 12 * t + i) = (k = i) from propext (by omega), show (12 * t + k = 12 * t + j) = (k = j) from propext (by omega)]
    refine ⟨?_, ?_, ?_⟩ <;> split <;> rfl
  · rw [up2_fn h3, up2_fn h2, up2_fn h1]
  · simp only [up2_at, up2_n (show 69 ≠ 70 by omega), up2_n (show 69 ≠ 71 by omega), up2_n (show 70 ≠ 71 by omega), up2_n (show 70 ≠ 69 by omega), up2_n (show 71 ≠ 69 by omega), up2_n (show 71 ≠ 70 by omega), if_neg (show ¬ k = 12 * t + i by omega), if_neg (show ¬ k = 12 * t + j by omega)]
    exact ⟨trivial, trivial, trivial⟩
theorem Mo_n0 (h0 : MTree A 0 X) : gA (Wd A I sw) false 67 (0 : Int32) = some (nI X.1) := by
  have := ga_67 (A := A) (I := I) (sw := sw) (i := 0) (by decide)
  rw [h0.1] at this
  exact this
theorem isS1 {n0 n1 : Nat} (h : WFp n0 n1 s) (hn : n1 ≤ 12) (i : Nat) : (0 : Int32) ≤ o2i (s.1 i) ↔ ¬ s.1 i = none := by
  cases e : s.1 i with
  | none => simp [o2i]
  | some j =>
    have := (h.1 i j e).2
    rw [o2i_s, ge0 (by omega)]
    simp
theorem isS2 {n0 n1 : Nat} (h : WFp n0 n1 s) (hn : n0 ≤ 12) (i : Nat) : (0 : Int32) ≤ o2i (s.2.2 i) ↔ ¬ s.2.2 i = none := by
  cases e : s.2.2 i with
  | none => simp [o2i]
  | some j =>
    have := (h.2.1 i j e).1
    rw [o2i_s, ge0 (by omega)]
    simp
theorem Mo_isLeft (ht : t < 3) (h0 : MTree A 0 X) (h1 : MTree A t Y) (v0 : VT X) (v1 : VT Y) (hw : WFp X.1 Y.1 s) (h : MPairs A t s) {i j : Nat} (hi : i < X.1) (hj : j < Y.1) : f_Mo_isLeft (Wd A I sw) 64 (nI t) (nI i) (nI j) = some (if (s.1 i = none ∧ s.2.2 j = none) ∧ ¬ (X.2.2 i ≤ 1 ∨ Y.2.2 j ≤ 1) then 1 else 0) := by
  have hn := h0.2.1
  have hn1 := h1.2.1
  have d1 := v0.c hi
  have d2 := v1.c hj
  have e0 : f_Mo_contentAt (Wd A I sw) 64 (0 : Int32) (nI i) = some (nI (X.2.2 i)) := Mo_contentAt (t := 0) (by decide) h0 hi
  unfold f_Mo_isLeft
  rw [kk_64, rr_64_11, sb, mix, ga_69 (by omega), sb, (h i (by omega)).1, ifc (isS1 hw hn1 i)]
  by_cases c1 : s.1 i = none
  · rw [if_neg (by simp [c1]), rr_64_13, sb, mix, ga_71 (by omega), sb, (h j (by omega)).2.2, ifc (isS2 hw hn j)]
    by_cases c2 : s.2.2 j = none
    · rw [if_neg (by simp [c2]), e0, sb, ifc (le1 (by omega))]
      by_cases c3 : X.2.2 i ≤ 1
      · rw [if_pos c3, sb, rz_0, if_neg (by omega)]
      · rw [if_neg c3, Mo_contentAt ht h1 hj, sb, ifc (le1 (by omega))]
        by_cases c4 : Y.2.2 j ≤ 1
        · rw [if_pos c4, sb, rz_0, if_neg (by omega)]
        · rw [if_neg c4, sb, rz_1, if_pos ⟨⟨c1, c2⟩, by omega⟩]
    · rw [if_pos c2, sb, rz_0, if_neg (fun q => c2 q.1.2)]
  · rw [if_pos c1, sb, rz_0, if_neg (fun q => c1 q.1.1)]
/-- by what the reference seeks in its two rounds -/
def rkM (lim : Nat) (X Y : Tre) (b i j : Nat) : Nat := if b = 1 then rk1 X Y i j else rk2 lim X Y i j
def stpM (lim : Nat) (X Y : Tre) (b : Nat) : Pst → Pst := stp (rkM lim X Y b) (fun _ _ => b) X.1 Y.1
theorem rkM_le (b i j : Nat) : rkM lim X Y b i j ≤ 1000 := by
  have := alk_le (X.2.2 i) (Y.2.2 j)
  unfold rkM rk1 rk2 clo
  repeat' split
  all_goals omega
theorem wtM_le (b i j : Nat) : wt (rkM lim X Y b) s i j ≤ 1000 := by
  unfold wt
  split
  · exact rkM_le b i j
  · omega
theorem Mo_closeness (ht : t < 3) (h0 : MTree A 0 X) (h1 : MTree A t Y) (v0 : VT X) (v1 : VT Y) (hw : WFp X.1 Y.1 s) (h : MPairs A t s) (hl : I 64 3 = nI lim) (hl2 : lim ≤ 100) {b : Nat} (hb : b < 3) {i j : Nat} (hi : i < X.1) (hj : j < Y.1) : f_Mo_closeness (Wd A I sw) 64 (nI t) (nI i) (nI j) (nI b) = some (nI (wt (rkM lim X Y b) s i j)) := by
  have d1 := v0.c hi
  have d2 := v1.c hj
  have p1 := v0.p hi
  have p2 := v1.p hj
  have ha := alk_le (X.2.2 i) (Y.2.2 j)
  have e0 : f_Mo_contentAt (Wd A I sw) 64 (0 : Int32) (nI i) = some (nI (X.2.2 i)) := Mo_contentAt (t := 0) (by decide) h0 hi
  have e1 : f_Mo_nameAt (Wd A I sw) 64 (0 : Int32) (nI i) = some (nI (X.2.1 i % 10)) := Mo_nameAt (t := 0) (by decide) h0 v0 hi
  have en : (2 : Int32) * nI (alk (X.2.2 i) (Y.2.2 j)) + (if nI (X.2.1 i % 10) = nI (Y.2.1 j % 10) then (1 : Int32) else (0 : Int32)) = nI (clo X Y i j) := by
    rw [show (2 : Int32) * nI (alk (X.2.2 i) (Y.2.2 j)) = nI (2 * alk (X.2.2 i) (Y.2.2 j)) from pk_mul 2 _, ifc (nI_eq (by omega) (by omega))]
    unfold clo
    split
    · exact nI_add _ 1
    · exact nI_add _ 0
  unfold f_Mo_closeness
  rw [kk_64, Mo_isLeft ht h0 h1 v0 v1 hw h hi hj, sb]
  unfold wt rkM rk1 rk2
  by_cases c1 : s.1 i = none ∧ s.2.2 j = none
  · by_cases c2 : X.2.2 i ≤ 1 ∨ Y.2.2 j ≤ 1
    · simp only [if_pos c1, if_pos c2, if_neg (fun q : (s.1 i = none ∧ s.2.2 j = none) ∧ ¬ (X.2.2 i ≤ 1 ∨ Y.2.2 j ≤ 1) => q.2 c2), ite_self]
      rfl
    · rw [if_pos (show (s.1 i = none ∧ s.2.2 j = none) ∧ ¬ (X.2.2 i ≤ 1 ∨ Y.2.2 j ≤ 1) from ⟨c1, c2⟩), if_neg (by decide), e0, sb, Mo_contentAt ht h1 hj, sb, Mo_alikeOf (v0.2.1 i hi).2 (v1.2.1 j hj).2, sb, ifc (eq1 (by omega)), sb, sb, gg_64_3, sb, hl, e1, sb, Mo_nameAt ht h1 v1 hj, sb, en]
      simp only [if_pos c1, if_neg c2]
      by_cases c3 : b = 1
      · simp only [if_pos c3]
        rw [ifc (nI_eq (by omega) (by omega))]
        by_cases c4 : X.2.2 i = Y.2.2 j
        · simp only [if_pos c4, sb]
          rw [if_neg (by decide), sb]
        · simp only [if_neg c4, sb]
          rw [if_pos trivial]
          rfl
      · simp only [if_neg c3]
        rw [ifc (nI_ltI (by omega) (by omega))]
        by_cases c4 : alk (X.2.2 i) (Y.2.2 j) < lim
        · simp only [if_pos c4, sb]
          rw [if_pos trivial]
          rfl
        · simp only [if_neg c4, sb]
          rw [if_neg (by decide), sb]
  · rw [if_neg (show ¬ ((s.1 i = none ∧ s.2.2 j = none) ∧ ¬ (X.2.2 i ≤ 1 ∨ Y.2.2 j ≤ 1)) from fun q => c1 q.1), if_pos rfl, if_neg c1]
    rfl
theorem isJoined_25 (ht : t < 3) (h0 : MTree A 0 X) (h1 : MTree A t Y) (v0 : VT X) (v1 : VT Y) (hw : WFp X.1 Y.1 s) (h : MPairs A t s) (hl : I 64 3 = nI lim) (hl2 : lim ≤ 100) {b : Nat} (hb : b < 3) {i : Nat} (hi : i < X.1) (K : Int32 → Int32 → Int32 → Int32 → Option (Int32 × Hp)) : ∀ (k j f : Nat) (a : Acc), j + k = Y.1 → k < f → a.1 ≤ 1000 → f_Mo_isJoined_25 (Wd A I sw) 64 (nI t) (nI b) (nI i) K f (nI a.1) (nI a.2.1) (nI a.2.2) (nI j) = K (nI (scJ (wt (rkM lim X Y b) s) i j k a).1) (nI (scJ (wt (rkM lim X Y b) s) i j k a).2.1) (nI (scJ (wt (rkM lim X Y b) s) i j k a).2.2) (nI (i + 1)) := by
  have hn1 := h1.2.1
  intro k
  induction k with
  | zero =>
    intro j f a e1 e2 e3
    obtain ⟨g, rfl⟩ : ∃ g, f = g + 1 := ⟨f - 1, by omega⟩
    rw [f_Mo_isJoined_25, rr_64_2, sb, ga_67 ht, sb, h1.1, ifc (nI_leI (by omega) (by omega)), if_pos (by omega), add1]
    rfl
  | succ k ih =>
    intro j f a e1 e2 e3
    obtain ⟨g, rfl⟩ : ∃ g, f = g + 1 := ⟨f - 1, by omega⟩
    have hle := wtM_le (lim := lim) (X := X) (Y := Y) (s := s) b i j
    rw [f_Mo_isJoined_25, rr_64_2, sb, ga_67 ht, sb, h1.1, ifc (nI_leI (by omega) (by omega)), if_neg (by omega), Mo_closeness ht h0 h1 v0 v1 hw h hl hl2 hb hi (by omega), sb, ifc (nI_leI (by omega) (by omega)), add1, scJ]
    by_cases c : wt (rkM lim X Y b) s i j ≤ a.1
    · rw [if_pos c, if_pos c, sb]
      exact ih (j + 1) g a (by omega) (by omega) e3
    · rw [if_neg c, if_neg c, sb]
      exact ih (j + 1) g (wt (rkM lim X Y b) s i j, i, j) (by omega) (by omega) hle
theorem Mo_isJoined (ht : t < 3) (h0 : MTree A 0 X) (h1 : MTree A t Y) (v0 : VT X) (v1 : VT Y) (hw : WFp X.1 Y.1 s) (h : MPairs A t s) (hl : I 64 3 = nI lim) (hl2 : lim ≤ 100) {b : Nat} (hb : b < 3) : ∃ A', f_Mo_isJoined (Wd A I sw) 64 (nI t) (nI b) = some ((if (scan (wt (rkM lim X Y b) s) X.1 Y.1).1 = 0 then 0 else 1), Wd A' I sw) ∧ MPairs A' t (stpM lim X Y b s) ∧ MPF t A A' := by
  have hn := h0.2.1
  have hn1 := h1.2.1
  have key : ∀ (k i f : Nat) (a : Acc), i + k = X.1 → k < f → a.1 ≤ 1000 → scI (wt (rkM lim X Y b) s) Y.1 i k a = scan (wt (rkM lim X Y b) s) X.1 Y.1 → ∃ A', f_Mo_isJoined_11 (Wd A I sw) 64 (nI t) (nI b) f (nI a.1) (nI a.2.1) (nI a.2.2) (nI i) = some ((if (scan (wt (rkM lim X Y b) s) X.1 Y.1).1 = 0 then 0 else 1), Wd A' I sw) ∧ MPairs A' t (stpM lim X Y b s) ∧ MPF t A A' := by
    intro k
    induction k with
    | zero =>
      intro i f a e1 e2 e3 e5
      obtain ⟨g, rfl⟩ : ∃ g, f = g + 1 := ⟨f - 1, by omega⟩
      have hi : i = X.1 := by omega
      subst hi
      have e5 : a = scan (wt (rkM lim X Y b) s) X.1 Y.1 := e5
      rw [f_Mo_isJoined_11, rr_64_2, sb, Mo_n0 h0, sb, if_pos (Int32.le_refl _), ifc (le0 (by omega)), ifc (le0 (by omega))]
      unfold stpM stp
      rw [← e5]
      by_cases c : a.1 = 0
      · rw [if_pos (by omega), if_pos (by omega), if_pos c, if_pos c, sb, rz_0, sb]
        exact ⟨A, rfl, h, MPF.rf⟩
      · have hB := scan_IsB (w := wt (rkM lim X Y b) s) (n0 := X.1) (n1 := Y.1) (by rw [← e5]; omega)
        rw [← e5] at hB
        obtain ⟨⟨b1, b2, b3, b4⟩, b5⟩ := hB
        obtain ⟨A1, z1, z2, z3⟩ := Mo_join (I := I) (sw := sw) ht h (i := a.2.1) (j := a.2.2) (w := b) (by omega) (by omega)
        rw [if_neg (by omega), if_neg (by omega), if_neg c, if_neg c, z1, sb, sb, rz_1, sb]
        exact ⟨A1, rfl, z2, z3⟩
    | succ k ih =>
      intro i f a e1 e2 e3 e5
      obtain ⟨g, rfl⟩ : ∃ g, f = g + 1 := ⟨f - 1, by omega⟩
      rw [f_Mo_isJoined_11, rr_64_2, sb, Mo_n0 h0, sb, ifc (nI_leI (by omega) (by omega)), if_neg (by omega)]
      rw [scI] at e5
      have q := isJoined_25 (sw := sw) ht h0 h1 v0 v1 hw h hl hl2 hb (i := i) (by omega) (fun l3 l4 l5 l6 => f_Mo_isJoined_11 (Wd A I sw) 64 (nI t) (nI b) g l3 l4 l5 l6) Y.1 0 FU a (by omega) (by rw [FU_eq]; omega) e3
      rw [show nI 0 = (0 : Int32) from rfl] at q
      rw [q]
      exact ih (i + 1) g _ (by omega) (by omega) (scJ_lt Y.1 0 a (wtM_le b i) e3) e5
  unfold f_Mo_isJoined
  rw [kk_64]
  exact key X.1 0 FU (0, 0, 0) (by omega) (by rw [FU_eq]; omega) (by decide) rfl
theorem findPairs_126 (ht : t < 3) (h0 : MTree A 0 X) (h1 : MTree A t Y) (v0 : VT X) (v1 : VT Y) (hl : I 64 3 = nI lim) (hl2 : lim ≤ 100) {b : Nat} (hb : b < 3) (K : Int32 → Hp → Option Hp) : ∀ (n f : Nat) (B : Nat → Nat → Int32) (q : Pst), unm X.1 q ≤ n → n + 2 ≤ f → MPF t A B → WFp X.1 Y.1 q → MPairs B t q → ∃ A', f_Mo_findPairs_126 64 (nI t) (nI b) K f (1 : Int32) (Wd B I sw) = K (nI (b + 1)) (Wd A' I sw) ∧ MPairs A' t (itr (stpM lim X Y b) n q) ∧ MPF t A A' := by
  have hstop : ∀ (g n : Nat) (B : Nat → Nat → Int32) (q : Pst), MPF t A B → WFp X.1 Y.1 q → MPairs B t q → (scan (wt (rkM lim X Y b) q) X.1 Y.1).1 = 0 → ∃ A', f_Mo_findPairs_126 64 (nI t) (nI b) K (g + 2) (1 : Int32) (Wd B I sw) = K (nI (b + 1)) (Wd A' I sw) ∧ MPairs A' t (itr (stpM lim X Y b) n q) ∧ MPF t A A' := by
    intro g n B q e3 e4 e5 c
    obtain ⟨B1, z1, z2, z3⟩ := Mo_isJoined (sw := sw) ht (e3.tree h0) (e3.tree h1) v0 v1 e4 e5 hl hl2 hb
    have hs : stpM lim X Y b q = q := by unfold stpM stp; rw [if_pos c]
    rw [hs] at z2
    refine ⟨B1, ?_, by rw [itr_fix hs]; exact z2, e3.tr z3⟩
    rw [f_Mo_findPairs_126, if_neg (by decide), z1, sb, if_pos c]
    dsimp only
    rw [f_Mo_findPairs_126, if_pos rfl, add1]
  intro n
  induction n with
  | zero =>
    intro f B q e1 e2 e3 e4 e5
    obtain ⟨g, rfl⟩ : ∃ g, f = g + 2 := ⟨f - 2, by omega⟩
    refine hstop g 0 B q e3 e4 e5 ?_
    rcases Nat.eq_zero_or_pos (scan (wt (rkM lim X Y b) q) X.1 Y.1).1 with c | c
    · exact c
    · obtain ⟨h5, -⟩ := scan_IsB c
      have := unm_join (n0 := X.1) (s := q) (j := 0) (w := 0) h5.1 (wt_pos h5.2.2.1).1.1
      omega
  | succ n ih =>
    intro f B q e1 e2 e3 e4 e5
    obtain ⟨g, rfl⟩ : ∃ g, f = g + 2 := ⟨f - 2, by omega⟩
    rcases Nat.eq_zero_or_pos (scan (wt (rkM lim X Y b) q) X.1 Y.1).1 with c | c
    · exact hstop g (n + 1) B q e3 e4 e5 c
    · obtain ⟨B1, z1, z2, z3⟩ := Mo_isJoined (sw := sw) ht (e3.tree h0) (e3.tree h1) v0 v1 e4 e5 hl hl2 hb
      rw [f_Mo_findPairs_126, if_neg (by decide), z1, sb, if_neg (by omega), itr]
      have hu : unm X.1 (stpM lim X Y b q) + 1 = unm X.1 q := by
        obtain ⟨h5, -⟩ := scan_IsB c
        unfold stpM stp
        rw [if_neg (by omega)]
        exact unm_join h5.1 (wt_pos h5.2.2.1).1.1
      dsimp only
      exact ih (g + 1) B1 (stpM lim X Y b q) (by omega) (by omega) (e3.tr z3) (by unfold stpM; exact stp_WF e4 (fun _ _ => by omega)) z2
theorem prs_two (hX : X.1 ≤ 12) : itr (stpM lim X Y 2) 12 (itr (stpM lim X Y 1) 12 (stay X Y X.1)) = prs lim X Y := by
  unfold prs
  rw [greedy 12 (stay X Y X.1) (Nat.le_trans (cnt_le _ _) hX)]
  rfl
/-- the reference's search for all pairs -/
theorem Mo_findPairs (ht : t < 3) (h0 : MTree A 0 X) (h1 : MTree A t Y) (v0 : VT X) (v1 : VT Y) (hl : I 64 3 = nI lim) (hl2 : lim ≤ 100) : ∃ A', f_Mo_findPairs (Wd A I sw) 64 (nI t) = some (Wd A' I sw) ∧ MPairs A' t (prs lim X Y) ∧ MPF t A A' := by
  have hn := h0.2.1
  have hn1 := h1.2.1
  have k119 : ∀ (B : Nat → Nat → Int32), MPF t A B → MPairs B t (stay X Y X.1) → ∃ A', f_Mo_findPairs_119 64 (nI t) FU (1 : Int32) (Wd B I sw) = some (Wd A' I sw) ∧ MPairs A' t (prs lim X Y) ∧ MPF t A A' := by
    intro B e3 e4
    have w0 : WFp X.1 Y.1 (stay X Y X.1) := stay_WF X.1 (Nat.le_refl _)
    have hu : unm X.1 (stay X Y X.1) ≤ 12 := Nat.le_trans (cnt_le _ _) hn
    obtain ⟨B1, z1, z2, z3⟩ := findPairs_126 (sw := sw) ht h0 h1 v0 v1 hl hl2 (b := 1) (by decide) (fun l2 h => f_Mo_findPairs_119 64 (nI t) 3999 l2 h) 12 FU B _ hu (by rw [FU_eq]; omega) e3 w0 e4
    have w1 : WFp X.1 Y.1 (itr (stpM lim X Y 1) 12 (stay X Y X.1)) := itr_WF (fun _ _ => by omega) 12 _ w0
    obtain ⟨B2, y1, y2, y3⟩ := findPairs_126 (sw := sw) ht h0 h1 v0 v1 hl hl2 (b := 2) (by decide) (fun l2 h => f_Mo_findPairs_119 64 (nI t) 3998 l2 h) 12 FU B1 _ (Nat.le_trans (cnt_le _ _) hn) (by rw [FU_eq]; omega) z3 w1 z2
    rw [prs_two hn] at y2
    refine ⟨B2, ?_, y2, y3⟩
    have z1' : f_Mo_findPairs_126 64 (nI t) (1 : Int32) (fun l2 h => f_Mo_findPairs_119 64 (nI t) 3999 l2 h) FU (1 : Int32) (Wd B I sw) = f_Mo_findPairs_119 64 (nI t) 3999 (nI (1 + 1)) (Wd B1 I sw) := z1
    have y1' : f_Mo_findPairs_126 64 (nI t) (nI (1 + 1)) (fun l2 h => f_Mo_findPairs_119 64 (nI t) 3998 l2 h) FU (1 : Int32) (Wd B1 I sw) = f_Mo_findPairs_119 64 (nI t) 3998 (nI (2 + 1)) (Wd B2 I sw) := y1
    rw [show f_Mo_findPairs_119 64 (nI t) FU = f_Mo_findPairs_119 64 (nI t) (3999 + 1) by rw [FU_eq], f_Mo_findPairs_119, if_neg (by decide), z1', show f_Mo_findPairs_119 64 (nI t) 3999 = f_Mo_findPairs_119 64 (nI t) (3998 + 1) from rfl, f_Mo_findPairs_119, if_neg (by decide), y1', show f_Mo_findPairs_119 64 (nI t) 3998 = f_Mo_findPairs_119 64 (nI t) (3997 + 1) from rfl, f_Mo_findPairs_119, if_pos (by decide)]
  have k67 : ∀ (i : Nat) (K : Int32 → Hp → Option Hp), i < X.1 → ∀ (k j f : Nat) (B : Nat → Nat → Int32), j + k = Y.1 → k < f → MPF t A B → MPairs B t (if pos Y (X.2.1 i) < j then stay X Y (i + 1) else stay X Y i) → ∃ A', f_Mo_findPairs_67 64 (nI t) (nI i) K f (nI j) (Wd B I sw) = K (nI (i + 1)) (Wd A' I sw) ∧ MPairs A' t (stay X Y (i + 1)) ∧ MPF t A A' := by
    intro i K hi k
    have hpi := v0.p hi
    induction k with
    | zero =>
      intro j f B e1 e2 e3 e4
      obtain ⟨g, rfl⟩ : ∃ g, f = g + 1 := ⟨f - 1, by omega⟩
      refine ⟨B, ?_, ?_, e3⟩
      · rw [f_Mo_findPairs_67, rr_64_2, sb, ga_67 ht, sb, (e3.tree h1).1, ifc (nI_leI (by omega) (by omega)), if_pos (by omega), add1]
      · by_cases c : pos Y (X.2.1 i) < j
        · rw [if_pos c] at e4; exact e4
        · rw [if_neg c] at e4
          rw [stay, if_neg]
          · exact e4
          · intro q
            have := (of_decide_eq_true q).1
            omega
    | succ k ih =>
      intro j f B e1 e2 e3 e4
      obtain ⟨g, rfl⟩ : ∃ g, f = g + 1 := ⟨f - 1, by omega⟩
      have t0 := e3.tree h0
      have t1 := e3.tree h1
      have hpj := v1.p (i := j) (by omega)
      have hP : gA (Wd B I sw) false 65 (nI i) = some (nI (X.2.1 i)) := by
        have := Mo_path (I := I) (sw := sw) (t := 0) (by decide) t0 hi
        rw [Nat.mul_zero, Nat.zero_add] at this
        exact this
      rw [f_Mo_findPairs_67, rr_64_2, sb, ga_67 ht, sb, t1.1, ifc (nI_leI (by omega) (by omega)), if_neg (by omega), rr_64_0, sb, hP, sb, sb, mix, Mo_path ht t1 (by omega), sb, ifc (nI_eq (by omega) (by omega)), add1]
      by_cases c : X.2.1 i = Y.2.1 j
      · have hj : j = pos Y (X.2.1 i) := there_iff v1 (by omega) c.symm
        have hT : isThere Y (X.2.1 i) = true := decide_eq_true ⟨by omega, by rw [← hj]; exact c.symm⟩
        rw [if_neg (by omega)] at e4
        obtain ⟨B1, z1, z2, z3⟩ := Mo_join (I := I) (sw := sw) ht e4 (i := i) (j := j) (w := 0) (by omega) (by omega)
        have z1' : f_Mo_join (Wd B I sw) 64 (nI t) (nI i) (nI j) (0 : Int32) = some (Wd B1 I sw) := z1
        rw [if_pos c, z1', sb, sb]
        refine ih (j + 1) g B1 (by omega) (by omega) (e3.tr z3) ?_
        rw [if_pos (by omega), stay, if_pos hT, ← hj]
        exact z2
      · rw [if_neg c, sb]
        refine ih (j + 1) g B (by omega) (by omega) e3 ?_
        by_cases c2 : pos Y (X.2.1 i) < j
        · rw [if_pos c2] at e4
          rw [if_pos (by omega)]
          exact e4
        · rw [if_neg c2] at e4
          by_cases c3 : pos Y (X.2.1 i) < j + 1
          · have hj : j = pos Y (X.2.1 i) := by omega
            rw [if_pos c3, stay, if_neg]
            · exact e4
            · intro q
              have := (of_decide_eq_true q).2
              rw [← hj] at this
              exact c this.symm
          · rw [if_neg c3]
            exact e4
  have k55 : ∀ (k i f : Nat) (B : Nat → Nat → Int32), i + k = X.1 → k < f → MPF t A B → MPairs B t (stay X Y i) → ∃ A', f_Mo_findPairs_55 64 (nI t) f (nI i) (Wd B I sw) = some (Wd A' I sw) ∧ MPairs A' t (prs lim X Y) ∧ MPF t A A' := by
    intro k
    induction k with
    | zero =>
      intro i f B e1 e2 e3 e4
      obtain ⟨g, rfl⟩ : ∃ g, f = g + 1 := ⟨f - 1, by omega⟩
      have hi : i = X.1 := by omega
      subst hi
      rw [f_Mo_findPairs_55, rr_64_2, sb, Mo_n0 (e3.tree h0), sb, if_pos (Int32.le_refl _)]
      exact k119 B e3 e4
    | succ k ih =>
      intro i f B e1 e2 e3 e4
      obtain ⟨g, rfl⟩ : ∃ g, f = g + 1 := ⟨f - 1, by omega⟩
      obtain ⟨B1, z1, z2, z3⟩ := k67 i (fun l2 h => f_Mo_findPairs_55 64 (nI t) g l2 h) (by omega) Y.1 0 FU B (by omega) (by rw [FU_eq]; omega) e3 (by rw [if_neg (by omega)]; exact e4)
      rw [show nI 0 = (0 : Int32) from rfl] at z1
      rw [f_Mo_findPairs_55, rr_64_2, sb, Mo_n0 (e3.tree h0), sb, ifc (nI_leI (by omega) (by omega)), if_neg (by omega), z1]
      exact ih (i + 1) g B1 (by omega) (by omega) z3 z2
  have k2 : ∀ (k i f : Nat) (B : Nat → Nat → Int32), i + k = 12 → k < f → MPF t A B → (∀ j, j < i → B 69 (12 * t + j) = -6 ∧ B 70 (12 * t + j) = -6 ∧ B 71 (12 * t + j) = -6) → ∃ A', f_Mo_findPairs_2 64 (nI t) f (nI i) (Wd B I sw) = some (Wd A' I sw) ∧ MPairs A' t (prs lim X Y) ∧ MPF t A A' := by
    intro k
    induction k with
    | zero =>
      intro i f B e1 e2 e3 e4
      obtain ⟨g, rfl⟩ : ∃ g, f = g + 1 := ⟨f - 1, by omega⟩
      have hi : i = 12 := by omega
      subst hi
      rw [f_Mo_findPairs_2, if_pos (by decide)]
      exact k55 X.1 0 FU B (by omega) (by rw [FU_eq]; omega) e3 (fun j hj => e4 j hj)
    | succ k ih =>
      intro i f B e1 e2 e3 e4
      obtain ⟨g, rfl⟩ : ∃ g, f = g + 1 := ⟨f - 1, by omega⟩
      rw [f_Mo_findPairs_2, ifc (ge12 (by omega)), if_neg (by omega), rr_64_11, sb, mix, sa_69 (by omega), sb, rr_64_12, sb, sa_70 (by omega), sb, rr_64_13, sb, sa_71 (by omega), sb, add1]
      refine ih (i + 1) g _ (by omega) (by omega) ⟨fun a a1 a2 a3 => ?_, fun j hj => ?_⟩ (fun j hj => ?_)
      · rw [up2_fn a3, up2_fn a2, up2_fn a1]
        exact e3.1 a a1 a2 a3
      · simp only [up2_at, up2_n (show 69 ≠ 70 by omega), up2_n (show 69 ≠ 71 by omega), up2_n (show 70 ≠ 71 by omega), up2_n (show 70 ≠ 69 by omega), up2_n (show 71 ≠ 69 by omega), up2_n (show 71 ≠ 70 by omega), if_neg (show ¬ j = 12 * t + i by omega)]
        exact e3.2 j hj
      · simp only [up2_at, up2_n (show 69 ≠ 70 by omega), up2_n (show 69 ≠ 71 by omega), up2_n (show 70 ≠ 71 by omega), up2_n (show 70 ≠ 69 by omega), up2_n (show 71 ≠ 69 by omega), up2_n (show 71 ≠ 70 by omega)]
        by_cases c : j = i
        · simp only [c, if_true]
          exact ⟨trivial, trivial, trivial⟩
        · simp only [if_neg (show ¬ 12 * t + j = 12 * t + i by omega)]
          exact e4 j (by omega)
  unfold f_Mo_findPairs
  rw [kk_64]
  exact k2 12 0 FU A (by omega) (by rw [FU_eq]; omega) MPF.rf (fun j hj => by omega)
end MP
