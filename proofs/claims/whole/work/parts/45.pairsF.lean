section PB
variable {A I : Nat → Nat → Int32} {sw : Bool} {p r lim : Nat} {X Y : Tre} {s : Pst}
theorem scJ_lt {w : Nat → Nat → Nat} {i b : Nat} : ∀ (k j : Nat) (a : Acc), (∀ c, w i c ≤ b) → a.1 ≤ b → (scJ w i j k a).1 ≤ b := by
  intro k
  induction k with
  | zero => intro j a _ h; exact h
  | succ k ih =>
    intro j a h1 h2
    rw [scJ]
    refine ih (j + 1) _ h1 ?_
    split
    · exact h2
    · exact h1 j
theorem rkC_le (i j : Nat) : rkC lim X Y i j ≤ 1000 := by
  unfold rkC clo
  have := alk_le (X.2.2 i) (Y.2.2 j)
  repeat' split
  all_goals omega
theorem wtC_le (i j : Nat) : wt (rkC lim X Y) s i j ≤ 1000 := by
  unfold wt
  split
  · exact rkC_le i j
  · omega
theorem joinBest_25 (hp : isP p = true) (hr : isT r = true) (h1 : TreeIs A I r Y) (hw : WFp X.1 Y.1 s) (hX : X.1 ≤ 12) (h : PairsIs A p s) (hR : RanksIs A p lim X Y s) {i : Nat} (hi : i < X.1) (hm : s.1 i = none) (K : Int32 → Int32 → Int32 → Int32 → Option (Int32 × Hp)) : ∀ (k j f : Nat) (a : Acc) (x y : Int32), j + k = Y.1 → k < f → a.1 ≤ 1000 → (0 < a.1 → x = nI a.2.1 ∧ y = nI a.2.2) → ∃ x' y', f_Pairs_joinBest_25 (Wd A I sw) p 4 r (nI i) K f (nI a.1) x y (nI j) = K (nI (scJ (wt (rkC lim X Y) s) i j k a).1) x' y' (nI (i + 1)) ∧ (0 < (scJ (wt (rkC lim X Y) s) i j k a).1 → x' = nI (scJ (wt (rkC lim X Y) s) i j k a).2.1 ∧ y' = nI (scJ (wt (rkC lim X Y) s) i j k a).2.2) := by
  have hn1 := h1.2.1
  have hmi : A (p + 1) i = (-6 : Int32) := by rw [(h i (by omega)).1, hm]; rfl
  intro k
  induction k with
  | zero =>
    intro j f a x y e1 e2 e3 e4
    obtain ⟨g, rfl⟩ : ∃ g, f = g + 1 := ⟨f - 1, by omega⟩
    refine ⟨x, y, ?_, e4⟩
    rw [f_Pairs_joinBest_25, P_r0 hp, sb, P_g0 hp (by omega), sb, hmi, if_pos rfl, Tree_size hr h1, sb, ifc (nI_leI (by omega) (by omega)), if_pos (by omega), add1]
    rfl
  | succ k ih =>
    intro j f a x y e1 e2 e3 e4
    obtain ⟨g, rfl⟩ : ∃ g, f = g + 1 := ⟨f - 1, by omega⟩
    have ei : nI i * (12 : Int32) + nI j = nI (12 * i + j) := by rw [show nI i * (12 : Int32) = nI (i * 12) from pk_mul i 12, nI_add, Nat.mul_comm]
    have hrk := rkC_le (lim := lim) (X := X) (Y := Y) i j
    rw [f_Pairs_joinBest_25, P_r0 hp, sb, P_g0 hp (by omega), sb, hmi, if_pos rfl, Tree_size hr h1, sb, ifc (nI_leI (by omega) (by omega)), if_neg (by omega), P_r3 hp, sb, ei, P_g3 hp (by omega), sb, P_r2 hp, sb, P_g2 hp (by omega), sb, (h j (by omega)).2.2, ifc (isNone2 hw hX j), add1, scJ]
    by_cases c1 : s.2.2 j = none
    · rw [if_pos c1, hR i j hi (by omega) hm c1, ifc (nI_leI (by omega) (by omega)), wt_in ⟨hm, c1⟩]
      by_cases c2 : rkC lim X Y i j ≤ a.1
      · rw [if_pos c2, if_pos c2, sb]
        exact ih (j + 1) g a x y (by omega) (by omega) e3 e4
      · rw [if_neg c2, if_neg c2, sb]
        exact ih (j + 1) g (rkC lim X Y i j, i, j) (nI i) (nI j) (by omega) (by omega) hrk (fun _ => ⟨rfl, rfl⟩)
    · have hz : wt (rkC lim X Y) s i j = 0 := by unfold wt; rw [if_neg (fun q => c1 q.2)]
      rw [if_neg c1, hz, if_pos (Nat.zero_le _), sb]
      exact ih (j + 1) g a x y (by omega) (by omega) e3 e4
theorem joinBest_skip (hp : isP p = true) (hw : WFp X.1 Y.1 s) (hY : Y.1 ≤ 12) (h : PairsIs A p s) {i : Nat} (hi : i < 12) (hm : ¬ s.1 i = none) (K : Int32 → Int32 → Int32 → Int32 → Option (Int32 × Hp)) (b x y : Int32) : f_Pairs_joinBest_25 (Wd A I sw) p 4 r (nI i) K FU b x y (0 : Int32) = K b x y (nI (i + 1)) := by
  rw [show FU = 3999 + 1 from rfl, f_Pairs_joinBest_25, P_r0 hp, sb, P_g0 hp (by omega), sb, (h i hi).1, ifc (isNone1 hw hY i), if_neg hm, add1]
theorem Pairs_joinBest (hp : isP p = true) (hr : isT r = true) (h0 : TreeIs A I 4 X) (h1 : TreeIs A I r Y) (v0 : VT X) (v1 : VT Y) (hw : WFp X.1 Y.1 s) (h : PairsIs A p s) (hR : RanksIs A p lim X Y s) : ∃ m A', f_Pairs_joinBest (Wd A I sw) p 4 r = some (m, Wd A' I sw) ∧ (m = 0 → stpC lim X Y s = s) ∧ PairsIs A' p (stpC lim X Y s) ∧ PF p A A' ∧ A' (p + 4) = A (p + 4) := by
  have hn := h0.2.1
  have hn1 := h1.2.1
  have key : ∀ (k i f : Nat) (a : Acc) (x y : Int32), i + k = X.1 → k < f → a.1 ≤ 1000 → (0 < a.1 → x = nI a.2.1 ∧ y = nI a.2.2) → scI (wt (rkC lim X Y) s) Y.1 i k a = scan (wt (rkC lim X Y) s) X.1 Y.1 → ∃ m A', f_Pairs_joinBest_13 (Wd A I sw) p 4 r f (nI a.1) x y (nI i) = some (m, Wd A' I sw) ∧ (m = 0 → stpC lim X Y s = s) ∧ PairsIs A' p (stpC lim X Y s) ∧ PF p A A' ∧ A' (p + 4) = A (p + 4) := by
    intro k
    induction k with
    | zero =>
      intro i f a x y e1 e2 e3 e4 e5
      obtain ⟨g, rfl⟩ : ∃ g, f = g + 1 := ⟨f - 1, by omega⟩
      have hi : i = X.1 := by omega
      subst hi
      have e5 : a = scan (wt (rkC lim X Y) s) X.1 Y.1 := e5
      rw [f_Pairs_joinBest_13, Tree_size (by decide) h0, sb, if_pos (Int32.le_refl _), ifc (eq0 (by omega))]
      unfold stpC stp
      rw [← e5]
      by_cases c : a.1 = 0
      · rw [if_pos c, if_pos c, rz_0, sb]
        exact ⟨0, A, rfl, fun _ => rfl, h, PF.rf, rfl⟩
      · obtain ⟨q1, q2⟩ := e4 (by omega)
        have hB := scan_IsB (w := wt (rkC lim X Y) s) (n0 := X.1) (n1 := Y.1) (by rw [← e5]; omega)
        rw [← e5] at hB
        obtain ⟨⟨b1, b2, b3, b4⟩, b5⟩ := hB
        have d1 := v0.c b1
        have d2 := v1.c b2
        obtain ⟨A1, z1, z2, z3, z4⟩ := Pairs_join (I := I) (sw := sw) hp h (i := a.2.1) (j := a.2.2) (w := if X.2.2 a.2.1 = Y.2.2 a.2.2 then 1 else 2) (by omega) (by omega)
        have ew : (if (if nI (X.2.2 a.2.1) = nI (Y.2.2 a.2.2) then (1 : Int32) else (0 : Int32)) = (0 : Int32) then (2 : Int32) else (1 : Int32)) = nI (if X.2.2 a.2.1 = Y.2.2 a.2.2 then 1 else 2) := by
          by_cases c5 : X.2.2 a.2.1 = Y.2.2 a.2.2
          · rw [if_pos c5, c5, if_pos rfl, if_neg (by decide)]; rfl
          · rw [if_neg c5, if_neg (fun q => c5 ((nI_eq (by omega) (by omega)).mp q)), if_pos rfl]; rfl
        rw [if_neg c, if_neg c, q1, q2, Tree_contentAt (by decide) h0 b1, sb, Tree_contentAt hr h1 b2, sb, ew, z1, sb, rz_1, sb]
        exact ⟨1, A1, rfl, fun q => absurd q (by decide), z2, z3, z4⟩
    | succ k ih =>
      intro i f a x y e1 e2 e3 e4 e5
      obtain ⟨g, rfl⟩ : ∃ g, f = g + 1 := ⟨f - 1, by omega⟩
      rw [f_Pairs_joinBest_13, Tree_size (by decide) h0, sb, ifc (nI_leI (by omega) (by omega)), if_neg (by omega)]
      rw [scI] at e5
      by_cases hm : s.1 i = none
      · obtain ⟨x', y', q1, q2⟩ := joinBest_25 (sw := sw) hp hr h1 hw hn h hR (i := i) (by omega) hm (fun l3 l4 l5 l6 => f_Pairs_joinBest_13 (Wd A I sw) p 4 r g l3 l4 l5 l6) Y.1 0 FU a x y (by omega) (by rw [FU_eq]; omega) e3 e4
        have q1' : f_Pairs_joinBest_25 (Wd A I sw) p 4 r (nI i) (fun l3 l4 l5 l6 => f_Pairs_joinBest_13 (Wd A I sw) p 4 r g l3 l4 l5 l6) FU (nI a.1) x y (0 : Int32) = _ := q1
        rw [q1']
        exact ih (i + 1) g _ x' y' (by omega) (by omega) (scJ_lt Y.1 0 a (wtC_le i) e3) q2 e5
      · rw [joinBest_skip hp hw hn1 h (by omega) hm]
        rw [scJ_zero Y.1 0 a (fun c => by unfold wt; rw [if_neg (fun q => hm q.1)])] at e5
        exact ih (i + 1) g a x y (by omega) (by omega) e3 e4 e5
  unfold f_Pairs_joinBest
  rw [P_ck hp]
  exact key X.1 0 FU (0, 0, 0) (-6) (-6) (by omega) (by rw [FU_eq]; omega) (by decide) (fun q => absurd q (by decide)) rfl
/-- all pairs of BASE and a SIDE -/
def prs (lim : Nat) (X Y : Tre) : Pst := itr (stpC lim X Y) 12 (stay X Y X.1)
theorem prs_WF : WFp X.1 Y.1 (prs lim X Y) := itr_WF (fun i j => by split <;> omega) 12 _ (stay_WF X.1 (Nat.le_refl _))
theorem Pairs_find (hp : isP p = true) (hr : isT r = true) (h0 : TreeIs A I 4 X) (h1 : TreeIs A I r Y) (v0 : VT X) (v1 : VT Y) (hl : 1 ≤ lim) (hl2 : lim ≤ 100) : ∃ A', f_Pairs_find (Wd A I sw) p 4 r (nI lim) = some (Wd A' I sw) ∧ PairsIs A' p (prs lim X Y) ∧ PF p A A' := by
  have hn := h0.2.1
  have hn1 := h1.2.1
  -- twelve times
  have k62 : ∀ (k i f : Nat) (B : Nat → Nat → Int32) (q : Pst) (m : Int32), i + k = 12 → k < f → PF p A B → WFp X.1 Y.1 q → PairsIs B p q → RanksIs B p lim X Y q → (m = 0 → stpC lim X Y q = q) → ∃ A', f_Pairs_find_62 p 4 r f m (nI i) (Wd B I sw) = some (Wd A' I sw) ∧ PairsIs A' p (itr (stpC lim X Y) k q) ∧ PF p A A' := by
    intro k
    induction k with
    | zero =>
      intro i f B q m e1 e2 e3 e4 e5 e6 e7
      obtain ⟨g, rfl⟩ : ∃ g, f = g + 1 := ⟨f - 1, by omega⟩
      refine ⟨B, ?_, e5, e3⟩
      rw [f_Pairs_find_62, ifc (ge12 (by omega)), if_pos (by omega)]
    | succ k ih =>
      intro i f B q m e1 e2 e3 e4 e5 e6 e7
      obtain ⟨g, rfl⟩ : ∃ g, f = g + 1 := ⟨f - 1, by omega⟩
      rw [f_Pairs_find_62, ifc (ge12 (by omega)), if_neg (by omega)]
      by_cases c : m = 0
      · rw [if_pos c, itr_fix (e7 c)]
        exact ⟨B, rfl, e5, e3⟩
      · obtain ⟨m1, B1, z1, z0, z2, z3, z4⟩ := Pairs_joinBest (sw := sw) hp hr (e3.tree (by decide) hp h0) (e3.tree hr hp h1) v0 v1 e4 e5 e6
        rw [if_neg c, z1, sb, add1, itr]
        dsimp only
        exact ih (i + 1) g B1 _ m1 (by omega) (by omega) (e3.tr z3) (stp_WF e4 (fun i j => by split <;> omega)) z2 (fun a c ha hc n1 n2 => by rw [z4]; exact e6 a c ha hc (stp_none.1 a n1) (stp_none.2 c n2)) (fun w => congrArg (stpC lim X Y) (z0 w))
  have k3 : ∀ (k i f : Nat) (B : Nat → Nat → Int32), i + k = 12 → k < f → PF p A B → (∀ j, j < i → B (p + 1) j = -6 ∧ B (p + 2) j = -6 ∧ B (p + 3) j = -6) → ∃ A', f_Pairs_find_3 p 4 r (nI lim) f (nI i) (Wd B I sw) = some (Wd A' I sw) ∧ PairsIs A' p (prs lim X Y) ∧ PF p A A' := by
    intro k
    induction k with
    | zero =>
      intro i f B e1 e2 e3 e4
      obtain ⟨g, rfl⟩ : ∃ g, f = g + 1 := ⟨f - 1, by omega⟩
      have hi : i = 12 := by omega
      subst hi
      have hS : PairsIs B p st0 := fun j hj => e4 j hj
      obtain ⟨B1, z1, z2, z3⟩ := Pairs_joinStayed (sw := sw) hp hr (e3.tree (by decide) hp h0) (e3.tree hr hp h1) v0 v1 hS
      have e31 := e3.tr z3
      obtain ⟨B2, y1, y2, y3⟩ := Pairs_rankOthers (sw := sw) hp hr (e31.tree (by decide) hp h0) (e31.tree hr hp h1) v0 v1 hl hl2 (stay_WF X.1 (Nat.le_refl _)) z2
      have e32 : PF p A B2 := fun a a1 a2 a3 a4 => (y3 a a4).trans (e31 a a1 a2 a3 a4)
      have hP2 : PairsIs B2 p (stay X Y X.1) := fun j hj => by
        rw [y3 _ (by omega), y3 _ (by omega), y3 _ (by omega)]
        exact z2 j hj
      rw [f_Pairs_find_3, if_pos (by decide), z1, sb, y1, sb]
      exact k62 12 0 FU B2 _ 1 (by omega) (by rw [FU_eq]; omega) e32 (stay_WF X.1 (Nat.le_refl _)) hP2 y2 (fun w => absurd w (by decide))
    | succ k ih =>
      intro i f B e1 e2 e3 e4
      obtain ⟨g, rfl⟩ : ∃ g, f = g + 1 := ⟨f - 1, by omega⟩
      rw [f_Pairs_find_3, ifc (ge12 (by omega)), if_neg (by omega), P_r0 hp, sb, P_s0 hp (by omega), sb, P_r1 hp, sb, P_s1 hp (by omega), sb, P_r2 hp, sb, P_s2 hp (by omega), sb, add1]
      refine ih (i + 1) g _ (by omega) (by omega) (fun a a1 a2 a3 a4 => ?_) (fun j hj => ?_)
      · rw [up2_fn a3, up2_fn a2, up2_fn a1]
        exact e3 a a1 a2 a3 a4
      · simp only [up2_at, up2_n (show p + 1 ≠ p + 2 by omega), up2_n (show p + 1 ≠ p + 3 by omega), up2_n (show p + 2 ≠ p + 3 by omega), up2_n (show p + 2 ≠ p + 1 by omega), up2_n (show p + 3 ≠ p + 1 by omega), up2_n (show p + 3 ≠ p + 2 by omega)]
        by_cases c : j = i
        · simp only [if_pos c]
          exact ⟨trivial, trivial, trivial⟩
        · simp only [if_neg c]
          exact e4 j (by omega)
  unfold f_Pairs_find
  rw [P_ck hp]
  exact k3 12 0 FU A (by omega) (by rw [FU_eq]; omega) PF.rf (fun j hj => by omega)
end PB
