-- ===== the moves found =====
theorem Mo_isFolder_all : ∀ F, F < 445 → f_Mo_isFolder (nI F) = some (if vF F = true then 1 else 0) := by decide +kernel
def MMoves (A : Nat → Nat → Int32) (t : Nat) (f : Nat → Option Nat) : Prop := ∀ F, F < 445 → A 72 (445 * t + F) = o2i (f F)
/-- only the reference's pairs and moves of the side t were changed -/
def MMF (t : Nat) (A A' : Nat → Nat → Int32) : Prop := (∀ a, a ≠ 69 → a ≠ 70 → a ≠ 71 → a ≠ 72 → A' a = A a) ∧ (∀ j, (j < 12 * t ∨ 12 * t + 12 ≤ j) → A' 69 j = A 69 j ∧ A' 70 j = A 70 j ∧ A' 71 j = A 71 j) ∧ ∀ j, (j < 445 * t ∨ 445 * t + 445 ≤ j) → A' 72 j = A 72 j
theorem MMF.tr {t : Nat} {A B C : Nat → Nat → Int32} (h : MMF t A B) (g : MMF t B C) : MMF t A C := by
  refine ⟨fun a h1 h2 h3 h4 => (g.1 a h1 h2 h3 h4).trans (h.1 a h1 h2 h3 h4), fun j hj => ?_, fun j hj => (g.2.2 j hj).trans (h.2.2 j hj)⟩
  obtain ⟨a1, a2, a3⟩ := h.2.1 j hj
  obtain ⟨b1, b2, b3⟩ := g.2.1 j hj
  exact ⟨b1.trans a1, b2.trans a2, b3.trans a3⟩
theorem MPF.mm {t : Nat} {A B : Nat → Nat → Int32} (h : MPF t A B) : MMF t A B := ⟨fun a h1 h2 h3 _ => h.1 a h1 h2 h3, h.2, fun j _ => by rw [h.1 72 (by decide) (by decide) (by decide)]⟩
theorem MMF.tree {t u : Nat} {A A' : Nat → Nat → Int32} {X : Tre} (f : MMF t A A') (h : MTree A u X) : MTree A' u X := by
  unfold MTree
  rw [f.1 65 (by decide) (by decide) (by decide) (by decide), f.1 66 (by decide) (by decide) (by decide) (by decide), f.1 67 (by decide) (by decide) (by decide) (by decide)]
  exact h
theorem MMF.pairs {t u : Nat} {A A' : Nat → Nat → Int32} {s : Pst} (f : MMF t A A') (hne : u ≠ t) (h : MPairs A u s) : MPairs A' u s := by
  intro i hi
  obtain ⟨a1, a2, a3⟩ := f.2.1 (12 * u + i) (by omega)
  rw [a1, a2, a3]
  exact h i hi
theorem MMF.moves {t u : Nat} {A A' : Nat → Nat → Int32} {g : Nat → Option Nat} (f : MMF t A A') (hne : u ≠ t) (h : MMoves A u g) : MMoves A' u g := by
  intro F hF
  rw [f.2.2 (445 * u + F) (by omega)]
  exact h F hF
theorem mix5 (t i : Nat) : (445 : Int32) * nI t + nI i = nI (445 * t + i) := by
  rw [show (445 : Int32) * nI t = nI (445 * t) from pk_mul 445 t, nI_add]
section FM
variable {A I : Nat → Nat → Int32} {sw : Bool} {t lim : Nat} {X Y : Tre} {s : Pst}
theorem mv_none (v0 : VT X) (hw : WFp X.1 Y.1 s) {F : Nat} (h : lies X F = none) : mv X Y s F = none := by
  cases e : mv X Y s F with
  | none => rfl
  | some g =>
    obtain ⟨i, j, a1, a2, a3, a4⟩ := mv_is hw e
    exact absurd a2 (lies_none.mp h i a1)
theorem Mo_findMoves (ht : t < 3) (h0 : MTree A 0 X) (h1 : MTree A t Y) (v0 : VT X) (v1 : VT Y) (hl : I 64 3 = nI lim) (hl2 : lim ≤ 100) : ∃ A', f_Mo_findMoves (Wd A I sw) 64 (nI t) = some (Wd A' I sw) ∧ MPairs A' t (prs lim X Y) ∧ MMoves A' t (mv X Y (prs lim X Y)) ∧ MMF t A A' := by
  have hw : WFp X.1 Y.1 (prs lim X Y) := prs_WF
  obtain ⟨B0, z1, z2, z3⟩ := Mo_findPairs (sw := sw) ht h0 h1 v0 v1 hl hl2
  have key : ∀ (k F f : Nat) (B : Nat → Nat → Int32), F + k = 445 → k < f → MMF t A B → MPairs B t (prs lim X Y) → (∀ G, G < F → B 72 (445 * t + G) = o2i (mv X Y (prs lim X Y) G)) → ∃ A', f_Mo_findMoves_7 64 (nI t) f (nI F) (Wd B I sw) = some (Wd A' I sw) ∧ MPairs A' t (prs lim X Y) ∧ MMoves A' t (mv X Y (prs lim X Y)) ∧ MMF t A A' := by
    intro k
    induction k with
    | zero =>
      intro F f B e1 e2 e3 e4 e5
      obtain ⟨g, rfl⟩ : ∃ g, f = g + 1 := ⟨f - 1, by omega⟩
      have hF : F = 445 := by omega
      subst hF
      exact ⟨B, by rw [f_Mo_findMoves_7, if_pos (by decide)], e4, e5, e3⟩
    | succ k ih =>
      intro F f B e1 e2 e3 e4 e5
      obtain ⟨g, rfl⟩ : ∃ g, f = g + 1 := ⟨f - 1, by omega⟩
      have t0 := e3.tree h0
      have t1 := e3.tree h1
      have eL : f_Mo_liesIn (Wd B I sw) 64 (0 : Int32) (nI F) = some (if lies X F = none then 0 else 1) := Mo_liesIn (t := 0) (by decide) t0 v0 (by omega)
      have fin : ∃ A', ((some (o2i (mv X Y (prs lim X Y) F))).bind fun t4 => (sA (Wd B I sw) 72 (((445 : Int32) * nI t) + nI F) t4).bind fun h7 => f_Mo_findMoves_7 64 (nI t) g (nI F + (1 : Int32)) h7) = some (Wd A' I sw) ∧ MPairs A' t (prs lim X Y) ∧ MMoves A' t (mv X Y (prs lim X Y)) ∧ MMF t A A' := by
        rw [sb, mix5, sa_72 (by omega), sb, add1]
        refine ih (F + 1) g _ (by omega) (by omega) (e3.tr ⟨fun a _ _ _ a4 => up2_fn a4, fun j _ => ⟨up2_n (by decide), up2_n (by decide), up2_n (by decide)⟩, fun j hj => up2_m (by omega)⟩) (fun i hi => ?_) (fun G hG => ?_)
        · rw [up2_n (by decide), up2_n (by decide), up2_n (by decide)]
          exact e4 i hi
        · rw [up2_at]
          by_cases c : G = F
          · rw [c, if_pos rfl]
          · rw [if_neg (by omega)]
            exact e5 G (by omega)
      rw [f_Mo_findMoves_7, ifc (ge445 (by omega)), if_neg (by omega), rr_64_14, sb, Mo_isFolder_all F (by omega), sb]
      by_cases c1 : vF F = true
      · rw [if_pos c1, if_neg (by decide), eL, sb]
        by_cases c2 : lies X F = none
        · rw [if_pos c2, if_pos rfl]
          rw [mv_none v0 hw c2] at fin
          exact fin
        · rw [if_neg c2, if_neg (by decide), Mo_movedOf ht t0 t1 v0 v1 hw e4 (by omega), sb]
          exact fin
      · rw [if_neg c1, if_pos rfl]
        have e6 : mv X Y (prs lim X Y) F = none := by
          cases e : mv X Y (prs lim X Y) F with
          | none => rfl
          | some g => exact absurd (mv_ok hw v0 v1 e).1 c1
        rw [e6] at fin
        exact fin
  unfold f_Mo_findMoves
  rw [kk_64, z1, sb]
  exact key 445 0 FU B0 (by omega) (by rw [FU_eq]; omega) z3.mm z2 (fun G hG => by omega)
theorem Mo_findBoth {Y2 : Tre} (h0 : MTree A 0 X) (h1 : MTree A 1 Y) (h2 : MTree A 2 Y2) (v0 : VT X) (v1 : VT Y) (v2 : VT Y2) (hl : I 64 3 = nI lim) (hl2 : lim ≤ 100) : ∃ A', f_Mo_findBoth (Wd A I sw) 64 = some (Wd A' I sw) ∧ MPairs A' 1 (prs lim X Y) ∧ MMoves A' 1 (mv X Y (prs lim X Y)) ∧ MPairs A' 2 (prs lim X Y2) ∧ MMoves A' 2 (mv X Y2 (prs lim X Y2)) ∧ (∀ a, a ≠ 69 → a ≠ 70 → a ≠ 71 → a ≠ 72 → A' a = A a) := by
  obtain ⟨B, a1, a2, a3, a4⟩ := Mo_findMoves (sw := sw) (t := 1) (by decide) h0 h1 v0 v1 hl hl2
  obtain ⟨C, b1, b2, b3, b4⟩ := Mo_findMoves (sw := sw) (t := 2) (by decide) (a4.tree h0) (a4.tree h2) v0 v2 hl hl2
  refine ⟨C, ?_, b4.pairs (by decide) a2, b4.moves (by decide) a3, b2, b3, fun a q1 q2 q3 q4 => (b4.1 a q1 q2 q3 q4).trans (a4.1 a q1 q2 q3 q4)⟩
  unfold f_Mo_findBoth
  rw [kk_64, show (1 : Int32) = nI 1 from rfl, a1, sb, show (2 : Int32) = nI 2 from rfl, b1, sb]
end FM
-- ===== the class's list of moves =====
def MovesIs (A I : Nat → Nat → Int32) (m : Nat) (f : Nat → Option Nat) (n : Nat) (st : Nat → Nat) : Prop := I m 3 = nI n ∧ n ≤ 12 ∧ (∀ k, k < n → st k ≤ 444 ∧ A (m + 1) k = nI (st k) ∧ A (m + 2) k = o2i (f (st k))) ∧ (∀ a b, a < b → b < n → st a ≠ st b) ∧ (∀ F, f F ≠ none ↔ ∃ k, k < n ∧ st k = F) ∧ cnt (fun F => (f F).isSome) 445 = n ∧ ∀ F g, f F = some g → g ≤ 444
def MvF (m : Nat) (A I A' I' : Nat → Nat → Int32) : Prop := (∀ a, a ≠ m + 1 → a ≠ m + 2 → a ≠ m + 3 → A' a = A a) ∧ ∀ a b, (a ≠ m ∨ b ≠ 3) → I' a b = I a b
theorem MvF.rf {m : Nat} {A I : Nat → Nat → Int32} : MvF m A I A I := ⟨fun _ _ _ _ => rfl, fun _ _ _ => rfl⟩
theorem MvF.tr {m : Nat} {A I B J C K : Nat → Nat → Int32} (h : MvF m A I B J) (g : MvF m B J C K) : MvF m A I C K := ⟨fun a h1 h2 h3 => (g.1 a h1 h2 h3).trans (h.1 a h1 h2 h3), fun a b hb => (g.2 a b hb).trans (h.2 a b hb)⟩
theorem MvF.tree {m r : Nat} {A I A' I' : Nat → Nat → Int32} {X : Tre} (f : MvF m A I A' I') (hr : isT r = true) (hm : isM m = true) (h : TreeIs A I r X) : TreeIs A' I' r X := by
  have q : r ≠ m ∧ r + 1 ≠ m + 1 ∧ r + 1 ≠ m + 2 ∧ r + 1 ≠ m + 3 ∧ r + 2 ≠ m + 1 ∧ r + 2 ≠ m + 2 ∧ r + 2 ≠ m + 3 := by
    rcases isM_cases hm with rfl | rfl <;> rcases isT_cases hr with rfl | rfl | rfl | rfl | rfl | rfl | rfl | rfl | rfl <;> omega
  exact h.kept (funext fun b => f.2 r b (Or.inl q.1)) (f.1 _ q.2.1 q.2.2.1 q.2.2.2.1) (f.1 _ q.2.2.2.2.1 q.2.2.2.2.2.1 q.2.2.2.2.2.2)
theorem MvF.pairs {m p : Nat} {A I A' I' : Nat → Nat → Int32} {s : Pst} (f : MvF m A I A' I') (hp : isP p = true) (hm : isM m = true) (h : PairsIs A p s) : PairsIs A' p s := by
  intro i hi
  rw [f.1 (p + 1), f.1 (p + 2), f.1 (p + 3)]
  · exact h i hi
  all_goals (rcases isM_cases hm with rfl | rfl <;> rcases isP_cases hp with rfl | rfl <;> omega)
section CM
variable {A I : Nat → Nat → Int32} {sw : Bool} {p r m n lim : Nat} {X Y : Tre} {s : Pst} {f : Nat → Option Nat} {st : Nat → Nat}
theorem Moves_size (hm : isM m = true) (h : MovesIs A I m f n st) : f_Moves_size (Wd A I sw) m = some (nI n) := by
  unfold f_Moves_size
  rw [M_ck hm, M_n hm, sb, h.1]
theorem Moves_placeOf (hm : isM m = true) (h : MovesIs A I m f n st) {F : Nat} (hF : F < 2 ^ 31) : f_Moves_placeOf (Wd A I sw) m (nI F) = some (o2i (fnd (fun k => decide (st k = F)) 0 n)) := by
  have hn := h.2.1
  have key : ∀ (k i g : Nat), i + k = n → k < g → f_Moves_placeOf_2 (Wd A I sw) m (nI F) g (nI i) = some (o2i (fnd (fun k => decide (st k = F)) i k)) := by
    intro k
    induction k with
    | zero =>
      intro i g e1 e2
      obtain ⟨g, rfl⟩ : ∃ q, g = q + 1 := ⟨g - 1, by omega⟩
      rw [f_Moves_placeOf_2, M_n hm, sb, h.1, ifc (nI_leI (by omega) (by omega)), if_pos (by omega)]
      rfl
    | succ k ih =>
      intro i g e1 e2
      obtain ⟨g, rfl⟩ : ∃ q, g = q + 1 := ⟨g - 1, by omega⟩
      obtain ⟨a1, a2, a3⟩ := h.2.2.1 i (by omega)
      rw [f_Moves_placeOf_2, M_n hm, sb, h.1, ifc (nI_leI (by omega) (by omega)), if_neg (by omega), M_r0 hm, sb, M_g0 hm (by omega), sb, a2, ifc (nI_eq (by omega) hF), fnd, add1]
      by_cases c : st i = F
      · rw [if_pos c]
        simp [c, o2i]
      · rw [if_neg c, ih (i + 1) g (by omega) (by omega)]
        simp [c]
  unfold f_Moves_placeOf
  rw [M_ck hm]
  exact key n 0 FU (by omega) (by rw [FU_eq]; omega)
theorem fnd_mem {q : Nat → Bool} {n : Nat} : fnd q 0 n ≠ none ↔ ∃ k, k < n ∧ q k = true := by
  constructor
  · intro h
    cases e : fnd q 0 n with
    | none => exact absurd e h
    | some j =>
      obtain ⟨a1, a2, a3, a4⟩ := fnd_some n 0 j e
      exact ⟨j, by omega, a3⟩
  · rintro ⟨k, h1, h2⟩ h
    have := fnd_none n 0 h k (Nat.zero_le _) (by omega)
    rw [h2] at this
    cases this
theorem place_none (h : MovesIs A I m f n st) (F : Nat) : fnd (fun k => decide (st k = F)) 0 n = none ↔ f F = none := by
  have h1 := h.2.2.2.2.1 F
  have h2 := fnd_mem (q := fun k => decide (st k = F)) (n := n)
  constructor
  · intro e
    cases e2 : f F with
    | none => rfl
    | some g =>
      obtain ⟨k, a1, a2⟩ := h1.mp (by rw [e2]; exact Option.some_ne_none _)
      exact absurd e (h2.mpr ⟨k, a1, decide_eq_true a2⟩)
  · intro e
    cases e2 : fnd (fun k => decide (st k = F)) 0 n with
    | none => rfl
    | some g =>
      obtain ⟨k, a1, a2⟩ := h2.mp (by rw [e2]; exact Option.some_ne_none _)
      exact absurd e (h1.mpr ⟨k, a1, of_decide_eq_true a2⟩)
theorem place_some (h : MovesIs A I m f n st) {F k : Nat} (e : fnd (fun k => decide (st k = F)) 0 n = some k) : k < n ∧ st k = F := by
  obtain ⟨a1, a2, a3, a4⟩ := fnd_some n 0 k e
  exact ⟨by omega, of_decide_eq_true a3⟩
theorem Moves_targetAt (hm : isM m = true) (h : MovesIs A I m f n st) {k : Nat} (hk : k < n) : f_Moves_targetAt (Wd A I sw) m (nI k) = some (o2i (f (st k))) := by
  have hn := h.2.1
  unfold f_Moves_targetAt
  rw [M_ck hm, if_neg (neg_lt0 (by omega)), M_n hm, sb, h.1, ifc (nI_leI (by omega) (by omega)), if_neg (by omega), M_r1 hm, sb, M_g1 hm (by omega), sb, (h.2.2.1 k hk).2.2, sb]
theorem Moves_startAt (hm : isM m = true) (h : MovesIs A I m f n st) {k : Nat} (hk : k < n) : f_Moves_startAt (Wd A I sw) m (nI k) = some (nI (st k)) := by
  have hn := h.2.1
  unfold f_Moves_startAt
  rw [M_ck hm, if_neg (neg_lt0 (by omega)), M_n hm, sb, h.1, ifc (nI_leI (by omega) (by omega)), if_neg (by omega), M_r0 hm, sb, M_g0 hm (by omega), sb, (h.2.2.1 k hk).2.1, sb]
theorem Moves_targetOf (hm : isM m = true) (h : MovesIs A I m f n st) {F : Nat} (hF : F < 2 ^ 31) : f_Moves_targetOf (Wd A I sw) m (nI F) = some (o2i (f F)) := by
  unfold f_Moves_targetOf
  rw [M_ck hm, Moves_placeOf hm h hF, sb]
  cases e : fnd (fun k => decide (st k = F)) 0 n with
  | none =>
    rw [(place_none h F).mp e, o2i_n]
    unfold f_Moves_targetAt
    rw [M_ck hm, if_pos m6_lt0, sb, sb]
  | some k =>
    obtain ⟨a1, a2⟩ := place_some h e
    rw [o2i_s, Moves_targetAt hm h a1, sb, a2]
theorem Moves_add (hm : isM m = true) (h : MovesIs A I m f n st) (hn : n < 12) {F g : Nat} (hF : F ≤ 444) (hg : g ≤ 444) (hf : f F = none) : ∃ A' I', f_Moves_add (Wd A I sw) m (nI F) (nI g) = some (Wd A' I' sw) ∧ MovesIs A' I' m (fun G => if G = F then some g else f G) (n + 1) (fun k => if k = n then F else st k) ∧ MvF m A I A' I' := by
  obtain ⟨h1, h2, h3, h4, h5, h6, h7⟩ := h
  have hnot : ∀ k, k < n → st k ≠ F := fun k hk e => (h5 F).mpr ⟨k, hk, e⟩ hf
  refine ⟨up2 (up2 (up2 A (m + 1) n (nI F)) (m + 2) n (nI g)) (m + 3) n (vp_nar .boolean 0), up2 I m 3 (nI (n + 1)), ?_, ⟨up2_s _ _ _ _, by omega, fun k hk => ?_, fun a b ha hb => ?_, fun G => ?_, ?_, fun G d e => ?_⟩, ⟨fun a a1 a2 a3 => ?_, fun a b hb => ?_⟩⟩
  · unfold f_Moves_add
    rw [M_ck hm, if_neg (nI_ne6 (by omega)), M_n hm, sb, h1, ifc (lt12 (by omega)), if_pos hn, M_r0 hm, sb, sb, M_s0 hm hn, sb, M_r1 hm, sb, M_n hm, sb, h1, M_s1 hm hn, sb, M_r2 hm, sb, M_n hm, sb, h1, M_s2 hm hn, sb, M_n hm, sb, h1, M_sn hm, sb, add1]
  · simp only [up2_at, up2_n (show m + 1 ≠ m + 3 by omega), up2_n (show m + 1 ≠ m + 2 by omega), up2_n (show m + 2 ≠ m + 3 by omega), up2_n (show m + 2 ≠ m + 1 by omega)]
    by_cases c : k = n
    · simp only [if_pos c]
      refine ⟨hF, ?_, ?_⟩ <;> simp [o2i]
    · have := h3 k (by omega)
      simp only [if_neg c, if_neg (hnot k (by omega))]
      exact this
  · by_cases c : b = n
    · simp only [if_pos c, if_neg (show ¬ a = n by omega)]
      exact hnot a (by omega)
    · simp only [if_neg c, if_neg (show ¬ a = n by omega)]
      exact h4 a b ha (by omega)
  · constructor
    · intro e
      dsimp only at e ⊢
      by_cases c : G = F
      · exact ⟨n, by omega, by simp [c]⟩
      · rw [if_neg c] at e
        obtain ⟨k, a1, a2⟩ := (h5 G).mp e
        exact ⟨k, by omega, by rw [if_neg (by omega)]; exact a2⟩
    · rintro ⟨k, a1, a2⟩
      dsimp only at a2 ⊢
      by_cases c : G = F
      · rw [if_pos c]; exact Option.some_ne_none _
      · rw [if_neg c]
        by_cases c2 : k = n
        · rw [if_pos c2] at a2; exact absurd a2.symm c
        · rw [if_neg c2] at a2
          exact (h5 G).mpr ⟨k, by omega, a2⟩
  · have := cnt_one (q := fun G => ((fun G => if G = F then some g else f G) G).isSome) (p := fun F => (f F).isSome) (k := F) 445 (by omega) (by simp) (by simp [hf]) (fun t ht => by simp [ht])
    omega
  · dsimp only at e
    by_cases c : G = F
    · rw [if_pos c] at e; cases e; exact hg
    · rw [if_neg c] at e; exact h7 G d e
  · rw [up2_fn a3, up2_fn a2, up2_fn a1]
  · by_cases c : a = m
    · rw [up2_m (by omega)]
    · rw [up2_n c]
/-- what the class has found after the first i files of BASE -/
def mvI (X Y : Tre) (s : Pst) (i F : Nat) : Option Nat := if fnd (fun q => decide (X.2.1 q / 10 = F)) 0 i = none then none else mv X Y s F
theorem mvI_s (i : Nat) : mvI X Y s (i + 1) = fun G => if G = X.2.1 i / 10 then mv X Y s (X.2.1 i / 10) else mvI X Y s i G := by
  funext G
  have h1 := fnd_mem (q := fun q => decide (X.2.1 q / 10 = G)) (n := i)
  have h2 := fnd_mem (q := fun q => decide (X.2.1 q / 10 = G)) (n := i + 1)
  unfold mvI
  by_cases c : G = X.2.1 i / 10
  · rw [if_pos c, if_neg (h2.mpr ⟨i, by omega, decide_eq_true c.symm⟩), c]
  · rw [if_neg c]
    by_cases d : fnd (fun q => decide (X.2.1 q / 10 = G)) 0 i = none
    · rw [if_pos d, if_pos]
      cases e : fnd (fun q => decide (X.2.1 q / 10 = G)) 0 (i + 1) with
      | none => rfl
      | some k =>
        obtain ⟨k, a1, a2⟩ := h2.mp (by rw [e]; exact Option.some_ne_none _)
        have hk : k ≠ i := fun z => c (by rw [← z]; exact (of_decide_eq_true a2).symm)
        exact absurd d (h1.mpr ⟨k, by omega, a2⟩)
    · obtain ⟨k, a1, a2⟩ := h1.mp d
      rw [if_neg d, if_neg (h2.mpr ⟨k, by omega, a2⟩)]
theorem mvI_same {i : Nat} (h : mvI X Y s i (X.2.1 i / 10) = mv X Y s (X.2.1 i / 10)) : mvI X Y s (i + 1) = mvI X Y s i := by
  rw [mvI_s]
  funext G
  by_cases c : G = X.2.1 i / 10
  · rw [if_pos c, c, h]
  · rw [if_neg c]
theorem Moves_find (hp : isP p = true) (hm : isM m = true) (hr : isT r = true) (h0 : TreeIs A I 4 X) (h1 : TreeIs A I r Y) (v0 : VT X) (v1 : VT Y) (hw : WFp X.1 Y.1 s) (h : PairsIs A p s) : ∃ A' I' n st, f_Moves_find (Wd A I sw) m 4 r p = some (Wd A' I' sw) ∧ MovesIs A' I' m (mv X Y s) n st ∧ MvF m A I A' I' := by
  have hn := h0.2.1
  have hn1 := h1.2.1
  have hend : mvI X Y s X.1 = mv X Y s := by
    funext F
    unfold mvI
    split
    · rename_i e
      exact (mv_none v0 hw e).symm
    · rfl
  have key : ∀ (k i g : Nat) (B J : Nat → Nat → Int32) (n : Nat) (st : Nat → Nat), i + k = X.1 → k < g → n ≤ i → MvF m A I B J → MovesIs B J m (mvI X Y s i) n st → ∃ A' I' n st, f_Moves_find_8 m 4 r p g (nI i) (Wd B J sw) = some (Wd A' I' sw) ∧ MovesIs A' I' m (mv X Y s) n st ∧ MvF m A I A' I' := by
    intro k
    induction k with
    | zero =>
      intro i g B J n st e1 e2 e3 e4 e5
      obtain ⟨g, rfl⟩ : ∃ q, g = q + 1 := ⟨g - 1, by omega⟩
      have hi : i = X.1 := by omega
      subst hi
      rw [hend] at e5
      refine ⟨B, J, n, st, ?_, e5, e4⟩
      rw [f_Moves_find_8, Tree_size (by decide) (e4.tree (by decide) hm h0), sb, if_pos (Int32.le_refl _)]
    | succ k ih =>
      intro i g B J n st e1 e2 e3 e4 e5
      obtain ⟨g, rfl⟩ : ∃ q, g = q + 1 := ⟨g - 1, by omega⟩
      have t0 := e4.tree (by decide) hm h0
      have t1 := e4.tree hr hm h1
      have pp := e4.pairs hp hm h
      have hF := (v0.f (i := i) (by omega)).2
      have eL : f_Tree_liesIn (Wd B J sw) r (nI (X.2.1 i / 10)) = some (if lies Y (X.2.1 i / 10) = none then 0 else 1) := Tree_liesIn hr t1 v1 (by omega)
      rw [f_Moves_find_8, Tree_size (by decide) t0, sb, ifc (nI_leI (by omega) (by omega)), if_neg (by omega), Tree_folderAt (by decide) t0 v0 (by omega), sb, Moves_placeOf hm e5 (by omega), sb, add1]
      have same : mvI X Y s i (X.2.1 i / 10) = mv X Y s (X.2.1 i / 10) → ∃ A' I' n st, ((some (Wd B J sw)).bind fun h5 => f_Moves_find_8 m 4 r p g (nI (i + 1)) h5) = some (Wd A' I' sw) ∧ MovesIs A' I' m (mv X Y s) n st ∧ MvF m A I A' I' := fun q => by
        rw [sb]
        exact ih (i + 1) g B J n st (by omega) (by omega) (by omega) e4 (by rw [mvI_same q]; exact e5)
      cases e : fnd (fun k => decide (st k = X.2.1 i / 10)) 0 n with
      | some q =>
        obtain ⟨a1, a2⟩ := place_some e5 e
        have hb := e5.2.1
        rw [o2i_s, if_neg (nI_ne6 (by omega))]
        refine same ?_
        have : mvI X Y s i (X.2.1 i / 10) ≠ none := fun z => by rw [(place_none e5 _).mpr z] at e; cases e
        unfold mvI at this ⊢
        split at this
        · exact absurd rfl this
        · rename_i z
          rw [if_neg z]
      | none =>
        have hno := (place_none e5 _).mp e
        rw [o2i_n, if_pos rfl, eL, sb]
        by_cases c1 : lies Y (X.2.1 i / 10) = none
        · have emv : mv X Y s (X.2.1 i / 10) = mvO (vts X Y s (X.2.1 i / 10)) := by unfold mv; rw [if_pos c1]
          rw [if_pos c1, if_pos rfl, mostVoted hp hr t0 t1 v0 v1 hw pp (by omega), sb, ← emv]
          cases e6 : mv X Y s (X.2.1 i / 10) with
          | none =>
            have : f_Moves_add (Wd B J sw) m (nI (X.2.1 i / 10)) (o2i none) = some (Wd B J sw) := by
              unfold f_Moves_add
              rw [M_ck hm, o2i_n, if_pos rfl]
            rw [this, sb]
            exact same (by rw [hno, e6])
          | some d =>
            have hd := (mv_ok hw v0 v1 e6).2.2.2
            obtain ⟨B1, J1, z1, z2, z3⟩ := Moves_add (sw := sw) hm e5 (by omega) hF hd hno
            rw [o2i_s, z1, sb, sb]
            refine ih (i + 1) g B1 J1 (n + 1) _ (by omega) (by omega) (by omega) (e4.tr z3) (?_ : MovesIs B1 J1 m (mvI X Y s (i + 1)) (n + 1) (fun k => if k = n then X.2.1 i / 10 else st k))
            rw [mvI_s, e6]
            exact z2
        · rw [if_neg c1, if_neg (by decide)]
          refine same ?_
          rw [hno]
          unfold mv
          rw [if_neg c1]
  unfold f_Moves_find
  rw [M_ck hm, M_sn hm, sb]
  refine key X.1 0 FU A _ 0 (fun _ => 0) (by omega) (by rw [FU_eq]; omega) (by omega) ⟨fun _ _ _ _ => rfl, fun a b hb => ?_⟩ ⟨up2_s _ _ _ _, by omega, fun k hk => by omega, fun a b _ hb => by omega, fun F => ?_, ?_, fun F g e => ?_⟩
  · by_cases c : a = m
    · exact up2_m (by omega)
    · exact up2_n c
  · simp [mvI, fnd]
  · have : (fun F => (mvI X Y s 0 F).isSome) = fun _ => false := by funext F; simp [mvI, fnd]
    rw [this]
    decide +kernel
  · simp [mvI, fnd] at e
end CM
