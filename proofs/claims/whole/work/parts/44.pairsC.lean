-- ===== the class's pairs =====
def PairsIs (A : Nat → Nat → Int32) (p : Nat) (s : Pst) : Prop := ∀ i, i < 12 → A (p + 1) i = o2i (s.1 i) ∧ A (p + 2) i = o2i (s.2.1 i) ∧ A (p + 3) i = o2i (s.2.2 i)
def WFp (n0 n1 : Nat) (s : Pst) : Prop := (∀ i j, s.1 i = some j → i < n0 ∧ j < n1) ∧ (∀ j i, s.2.2 j = some i → i < n0 ∧ j < n1) ∧ ∀ i w, s.2.1 i = some w → w ≤ 2
def PF (p : Nat) (A A' : Nat → Nat → Int32) : Prop := ∀ a, a ≠ p + 1 → a ≠ p + 2 → a ≠ p + 3 → a ≠ p + 4 → A' a = A a
theorem PF.rf {p : Nat} {A : Nat → Nat → Int32} : PF p A A := fun _ _ _ _ _ => rfl
theorem PF.tr {p : Nat} {A B C : Nat → Nat → Int32} (h : PF p A B) (g : PF p B C) : PF p A C := fun a h1 h2 h3 h4 => (g a h1 h2 h3 h4).trans (h a h1 h2 h3 h4)
theorem TP_apart {r p : Nat} (hr : isT r = true) (hp : isP p = true) : r + 1 ≠ p + 1 ∧ r + 1 ≠ p + 2 ∧ r + 1 ≠ p + 3 ∧ r + 1 ≠ p + 4 ∧ r + 2 ≠ p + 1 ∧ r + 2 ≠ p + 2 ∧ r + 2 ≠ p + 3 ∧ r + 2 ≠ p + 4 := by
  rcases isP_cases hp with rfl | rfl <;> rcases isT_cases hr with rfl | rfl | rfl | rfl | rfl | rfl | rfl | rfl | rfl <;> omega
theorem PF.tree {p r : Nat} {A A' I : Nat → Nat → Int32} {X : Tre} (f : PF p A A') (hr : isT r = true) (hp : isP p = true) (h : TreeIs A I r X) : TreeIs A' I r X := by
  obtain ⟨a1, a2, a3, a4, a5, a6, a7, a8⟩ := TP_apart hr hp
  exact h.kept rfl (f _ a1 a2 a3 a4) (f _ a5 a6 a7 a8)
theorem WFp_join {n0 n1 : Nat} {s : Pst} {i j w : Nat} (h : WFp n0 n1 s) (hi : i < n0) (hj : j < n1) (hw : w ≤ 2) : WFp n0 n1 (joinP s i j w) := by
  refine ⟨fun a b e => ?_, fun a b e => ?_, fun a b e => ?_⟩
  · simp only [joinP, upO] at e
    split at e
    · rename_i q; cases e; exact ⟨by omega, hj⟩
    · exact h.1 a b e
  · simp only [joinP, upO] at e
    split at e
    · rename_i q; cases e; exact ⟨hi, by omega⟩
    · exact h.2.1 a b e
  · simp only [joinP, upO] at e
    split at e
    · cases e; exact hw
    · exact h.2.2 a b e
def st0 : Pst := (fun _ => none, fun _ => none, fun _ => none)
def stay (X Y : Tre) : Nat → Pst
  | 0 => st0
  | i + 1 => if isThere Y (X.2.1 i) = true then joinP (stay X Y i) i (pos Y (X.2.1 i)) 0 else stay X Y i
theorem stay_WF {X Y : Tre} : ∀ i, i ≤ X.1 → WFp X.1 Y.1 (stay X Y i) := by
  intro i
  induction i with
  | zero => intro _; exact ⟨fun i j h => (by cases h), fun i j h => (by cases h), fun i j h => (by cases h)⟩
  | succ i ih =>
    intro h
    rw [stay]
    split
    · rename_i ht
      have h1 := of_decide_eq_true ht
      exact WFp_join (ih (by omega)) (by omega) h1.1 (by omega)
    · exact ih (by omega)
theorem stp_WF {rk way : Nat → Nat → Nat} {n0 n1 : Nat} {s : Pst} (h : WFp n0 n1 s) (hw : ∀ i j, way i j ≤ 2) : WFp n0 n1 (stp rk way n0 n1 s) := by
  unfold stp
  split
  · exact h
  · rename_i h0
    obtain ⟨h1, -⟩ := scan_IsB (Nat.pos_of_ne_zero h0)
    exact WFp_join h h1.1 h1.2.1 (hw _ _)
theorem itr_WF {rk way : Nat → Nat → Nat} {n0 n1 : Nat} (hw : ∀ i j, way i j ≤ 2) : ∀ n s, WFp n0 n1 s → WFp n0 n1 (itr (stp rk way n0 n1) n s) := by
  intro n
  induction n with
  | zero => intro s h; exact h
  | succ n ih => intro s h; exact ih _ (stp_WF h hw)
section PC
variable {A I : Nat → Nat → Int32} {sw : Bool} {p r : Nat} {X Y : Tre} {s : Pst}
theorem isNone1 {n0 n1 : Nat} (h : WFp n0 n1 s) (hn : n1 ≤ 12) (i : Nat) : o2i (s.1 i) = (-6 : Int32) ↔ s.1 i = none := o2i_none_iff (fun j e => by have := (h.1 i j e).2; omega)
theorem isNone2 {n0 n1 : Nat} (h : WFp n0 n1 s) (hn : n0 ≤ 12) (i : Nat) : o2i (s.2.2 i) = (-6 : Int32) ↔ s.2.2 i = none := o2i_none_iff (fun j e => by have := (h.2.1 i j e).1; omega)
theorem Pairs_mateOf (hp : isP p = true) (h : PairsIs A p s) {i : Nat} (hi : i < 12) : f_Pairs_mateOf (Wd A I sw) p (nI i) = some (o2i (s.1 i)) := by
  unfold f_Pairs_mateOf
  rw [P_ck hp, if_neg (neg_lt0 (by omega)), ifc (ge12 (by omega)), if_neg (by omega), P_r0 hp, sb, P_g0 hp hi, sb, sb, (h i hi).1]
theorem Pairs_wayOf (hp : isP p = true) (h : PairsIs A p s) {i : Nat} (hi : i < 12) : f_Pairs_wayOf (Wd A I sw) p (nI i) = some (o2i (s.2.1 i)) := by
  unfold f_Pairs_wayOf
  rw [P_ck hp, if_neg (neg_lt0 (by omega)), ifc (ge12 (by omega)), if_neg (by omega), P_r1 hp, sb, P_g1 hp hi, sb, sb, (h i hi).2.1]
theorem Pairs_sourceOf (hp : isP p = true) (h : PairsIs A p s) {i : Nat} (hi : i < 12) : f_Pairs_sourceOf (Wd A I sw) p (nI i) = some (o2i (s.2.2 i)) := by
  unfold f_Pairs_sourceOf
  rw [P_ck hp, if_neg (neg_lt0 (by omega)), ifc (ge12 (by omega)), if_neg (by omega), P_r2 hp, sb, P_g2 hp hi, sb, sb, (h i hi).2.2]
theorem Pairs_join (hp : isP p = true) (h : PairsIs A p s) {i j w : Nat} (hi : i < 12) (hj : j < 12) : ∃ A', f_Pairs_join (Wd A I sw) p (nI i) (nI j) (nI w) = some (Wd A' I sw) ∧ PairsIs A' p (joinP s i j w) ∧ PF p A A' ∧ A' (p + 4) = A (p + 4) := by
  refine ⟨up2 (up2 (up2 A (p + 1) i (nI j)) (p + 2) i (nI w)) (p + 3) j (nI i), ?_, fun k hk => ?_, fun a h1 h2 h3 h4 => ?_, ?_⟩
  · unfold f_Pairs_join
    rw [P_ck hp, P_r0 hp, sb, P_s0 hp hi, sb, P_r1 hp, sb, P_s1 hp hi, sb, P_r2 hp, sb, P_s2 hp hj, sb]
  · obtain ⟨h1, h2, h3⟩ := h k hk
    simp only [up2_at, up2_n (show p + 1 ≠ p + 2 by omega), up2_n (show p + 1 ≠ p + 3 by omega), up2_n (show p + 2 ≠ p + 3 by omega), up2_n (show p + 2 ≠ p + 1 by omega), up2_n (show p + 3 ≠ p + 1 by omega), up2_n (show p + 3 ≠ p + 2 by omega), h1, h2, h3, joinP, upO]
    refine ⟨?_, ?_, ?_⟩ <;> split <;> rfl
  · rw [up2_fn h3, up2_fn h2, up2_fn h1]
  · rw [up2_fn (by omega), up2_fn (by omega), up2_fn (by omega)]
theorem Pairs_joinStayed (hp : isP p = true) (hr : isT r = true) (h0 : TreeIs A I 4 X) (h1 : TreeIs A I r Y) (v0 : VT X) (v1 : VT Y) (h : PairsIs A p st0) : ∃ A', f_Pairs_joinStayed (Wd A I sw) p 4 r = some (Wd A' I sw) ∧ PairsIs A' p (stay X Y X.1) ∧ PF p A A' := by
  have hn := h0.2.1
  have hn1 := h1.2.1
  have key : ∀ (k i f : Nat) (B : Nat → Nat → Int32), i + k = X.1 → k < f → PF p A B → PairsIs B p (stay X Y i) → ∃ A', f_Pairs_joinStayed_2 p 4 r f (nI i) (Wd B I sw) = some (Wd A' I sw) ∧ PairsIs A' p (stay X Y X.1) ∧ PF p A A' := by
    intro k
    induction k with
    | zero =>
      intro i f B e1 e2 e3 e4
      obtain ⟨g, rfl⟩ : ∃ g, f = g + 1 := ⟨f - 1, by omega⟩
      have hi : i = X.1 := by omega
      subst hi
      refine ⟨B, ?_, e4, e3⟩
      rw [f_Pairs_joinStayed_2, Tree_size (by decide) (e3.tree (by decide) hp h0), sb, if_pos (Int32.le_refl _)]
    | succ k ih =>
      intro i f B e1 e2 e3 e4
      obtain ⟨g, rfl⟩ : ∃ g, f = g + 1 := ⟨f - 1, by omega⟩
      have t0 := e3.tree (by decide) hp h0
      have t1 := e3.tree hr hp h1
      have hpi := v0.p (i := i) (by omega)
      rw [f_Pairs_joinStayed_2, Tree_size (by decide) t0, sb, ifc (nI_leI (by omega) (by omega)), if_neg (by omega), Tree_pathAt (by decide) t0 (by omega), sb, Tree_find hr t1 v1 (by omega), sb, add1]
      by_cases ht : isThere Y (X.2.1 i) = true
      · have h5 := of_decide_eq_true ht
        obtain ⟨B1, q1, q2, q3, q4⟩ := Pairs_join (I := I) (sw := sw) hp e4 (i := i) (j := pos Y (X.2.1 i)) (w := 0) (by omega) (by omega)
        have q1' : f_Pairs_join (Wd B I sw) p (nI i) (nI (pos Y (X.2.1 i))) (0 : Int32) = some (Wd B1 I sw) := q1
        rw [if_pos ht, o2i_s, if_neg (nI_ne6 (by omega)), q1', sb, sb]
        refine ih (i + 1) g B1 (by omega) (by omega) (e3.tr q3) ?_
        rw [stay, if_pos ht]
        exact q2
      · rw [if_neg ht, o2i_n, if_pos rfl, sb]
        refine ih (i + 1) g B (by omega) (by omega) e3 ?_
        rw [stay, if_neg ht]
        exact e4
  unfold f_Pairs_joinStayed
  rw [P_ck hp]
  exact key X.1 0 FU A (by omega) (by rw [FU_eq]; omega) PF.rf h
theorem rankOf {c e lim : Nat} (hc : vC c = true) (he : vC e = true) (hl : lim < 1000) : f_Pairs_rankOf (nI c) (nI e) (nI lim) = some (nI (if c ≤ 1 ∨ e ≤ 1 then 0 else if c = e then 101 else if alk c e < lim then 0 else alk c e)) := by
  have h1 := vC_lt hc
  have h2 := vC_lt he
  have h3 := alk_lt c e
  unfold f_Pairs_rankOf
  rw [ifc (eq1 (by omega))]
  by_cases c1 : c = 1
  · rw [if_pos c1, if_pos (by omega)]; rfl
  · rw [if_neg c1, ifc (eq1 (by omega))]
    by_cases c2 : e = 1
    · rw [if_pos c2, if_pos (by omega)]; rfl
    · have c12 : ¬ (c ≤ 1 ∨ e ≤ 1) := by omega
      rw [if_neg c2, if_neg c12, ifc (nI_eq (by omega) (by omega))]
      by_cases c3 : c = e
      · rw [if_pos c3, if_pos c3]; rfl
      · rw [if_neg c3, if_neg c3, likeness hc he, sb, ifc (nI_ltI (by omega) (by omega))]
        by_cases c4 : alk c e < lim
        · rw [if_pos c4, if_pos c4]; rfl
        · rw [if_neg c4, if_neg c4]
theorem rank_val {lim i j : Nat} (hl : 1 ≤ lim) : (if nI (if X.2.2 i ≤ 1 ∨ Y.2.2 j ≤ 1 then 0 else if X.2.2 i = Y.2.2 j then 101 else if alk (X.2.2 i) (Y.2.2 j) < lim then 0 else alk (X.2.2 i) (Y.2.2 j)) = (0 : Int32) then (0 : Int32) else (2 : Int32) * nI (if X.2.2 i ≤ 1 ∨ Y.2.2 j ≤ 1 then 0 else if X.2.2 i = Y.2.2 j then 101 else if alk (X.2.2 i) (Y.2.2 j) < lim then 0 else alk (X.2.2 i) (Y.2.2 j)) + (if nI (X.2.1 i % 10) = nI (Y.2.1 j % 10) then (1 : Int32) else (0 : Int32))) = nI (rkC lim X Y i j) := by
  have h3 := alk_lt (X.2.2 i) (Y.2.2 j)
  have en : (if nI (X.2.1 i % 10) = nI (Y.2.1 j % 10) then (1 : Int32) else (0 : Int32)) = nI (if X.2.1 i % 10 = Y.2.1 j % 10 then 1 else 0) := by
    rw [ifc (nI_eq (by omega) (by omega))]
    split <;> rfl
  have e2 : ∀ a b : Nat, (2 : Int32) * nI a + nI b = nI (2 * a + b) := fun a b => by rw [show (2 : Int32) * nI a = nI (2 * a) from pk_mul 2 a, nI_add]
  unfold rkC clo
  rw [en]
  by_cases c1 : X.2.2 i ≤ 1 ∨ Y.2.2 j ≤ 1
  · rw [if_pos c1, if_pos c1, if_pos (by decide)]
    rfl
  · rw [if_neg c1, if_neg c1]
    by_cases c2 : X.2.2 i = Y.2.2 j
    · rw [if_pos c2, if_pos c2, if_neg (by decide), e2]
    · rw [if_neg c2, if_neg c2]
      by_cases c3 : alk (X.2.2 i) (Y.2.2 j) < lim
      · rw [if_pos c3, if_pos c3, if_pos (by decide)]
        rfl
      · rw [if_neg c3, if_neg c3, if_neg (nI_ne0 (by omega) (by omega)), e2]
/-- the ranks of those that are free on both sides -/
def RanksIs (A : Nat → Nat → Int32) (p lim : Nat) (X Y : Tre) (s : Pst) : Prop := ∀ i j, i < X.1 → j < Y.1 → s.1 i = none → s.2.2 j = none → A (p + 4) (12 * i + j) = nI (rkC lim X Y i j)
theorem joinP_none {s : Pst} {i j w : Nat} : (∀ a, (joinP s i j w).1 a = none → s.1 a = none) ∧ ∀ a, (joinP s i j w).2.2 a = none → s.2.2 a = none := by
  refine ⟨fun a e => ?_, fun a e => ?_⟩
  · simp only [joinP, upO] at e
    split at e
    · cases e
    · exact e
  · simp only [joinP, upO] at e
    split at e
    · cases e
    · exact e
theorem stp_none {rk way : Nat → Nat → Nat} {n0 n1 : Nat} {s : Pst} : (∀ a, (stp rk way n0 n1 s).1 a = none → s.1 a = none) ∧ ∀ a, (stp rk way n0 n1 s).2.2 a = none → s.2.2 a = none := by
  unfold stp
  split
  · exact ⟨fun a e => e, fun a e => e⟩
  · exact joinP_none
theorem Pairs_rankOthers (hp : isP p = true) (hr : isT r = true) (h0 : TreeIs A I 4 X) (h1 : TreeIs A I r Y) (v0 : VT X) (v1 : VT Y) {lim : Nat} (hl : 1 ≤ lim) (hl2 : lim ≤ 100) (hw : WFp X.1 Y.1 s) (h : PairsIs A p s) : ∃ A', f_Pairs_rankOthers (Wd A I sw) p 4 r (nI lim) = some (Wd A' I sw) ∧ RanksIs A' p lim X Y s ∧ (∀ a, a ≠ p + 4 → A' a = A a) := by
  have hn := h0.2.1
  have hn1 := h1.2.1
  have tr : ∀ {B : Nat → Nat → Int32}, (∀ a, a ≠ p + 4 → B a = A a) → TreeIs B I 4 X ∧ TreeIs B I r Y := fun {B} e => by
    have hf : PF p A B := fun a _ _ _ q => e a q
    exact ⟨hf.tree (by decide) hp h0, hf.tree hr hp h1⟩
  have key : ∀ (k i f : Nat) (B : Nat → Nat → Int32), i + k = X.1 → k < f → (∀ a, a ≠ p + 4 → B a = A a) → (∀ a c, a < i → c < Y.1 → s.1 a = none → s.2.2 c = none → B (p + 4) (12 * a + c) = nI (rkC lim X Y a c)) → ∃ A', f_Pairs_rankOthers_3 p 4 r (nI lim) f (nI i) (Wd B I sw) = some (Wd A' I sw) ∧ RanksIs A' p lim X Y s ∧ (∀ a, a ≠ p + 4 → A' a = A a) := by
    intro k
    induction k with
    | zero =>
      intro i f B e1 e2 e3 e4
      obtain ⟨g, rfl⟩ : ∃ g, f = g + 1 := ⟨f - 1, by omega⟩
      have hi : i = X.1 := by omega
      subst hi
      refine ⟨B, ?_, fun a c ha hc n1 n2 => e4 a c ha hc n1 n2, e3⟩
      rw [f_Pairs_rankOthers_3, Tree_size (by decide) (tr e3).1, sb, if_pos (Int32.le_refl _)]
    | succ k ih =>
      intro i f B e1 e2 e3 e4
      obtain ⟨g, rfl⟩ : ∃ g, f = g + 1 := ⟨f - 1, by omega⟩
      rw [f_Pairs_rankOthers_3, Tree_size (by decide) (tr e3).1, sb, ifc (nI_leI (by omega) (by omega)), if_neg (by omega)]
      have inner : ∀ (d j f2 : Nat) (C : Nat → Nat → Int32), j + d = Y.1 → d < f2 → (∀ a, a ≠ p + 4 → C a = A a) → (∀ a c, c < Y.1 → (a < i ∨ (a = i ∧ c < j)) → s.1 a = none → s.2.2 c = none → C (p + 4) (12 * a + c) = nI (rkC lim X Y a c)) → ∃ A', f_Pairs_rankOthers_15 p 4 r (nI lim) (nI i) (fun l4 h => f_Pairs_rankOthers_3 p 4 r (nI lim) g l4 h) f2 (nI j) (Wd C I sw) = some (Wd A' I sw) ∧ RanksIs A' p lim X Y s ∧ (∀ a, a ≠ p + 4 → A' a = A a) := by
        intro d
        induction d with
        | zero =>
          intro j f2 C q1 q2 q3 q4
          obtain ⟨g2, rfl⟩ : ∃ g2, f2 = g2 + 1 := ⟨f2 - 1, by omega⟩
          rw [f_Pairs_rankOthers_15, Tree_size hr (tr q3).2, sb, ifc (nI_leI (by omega) (by omega)), if_pos (by omega), add1]
          exact ih (i + 1) g C (by omega) (by omega) q3 (fun a c ha hc n1 n2 => q4 a c hc (by omega) n1 n2)
        | succ d ihd =>
          intro j f2 C q1 q2 q3 q4
          obtain ⟨g2, rfl⟩ : ∃ g2, f2 = g2 + 1 := ⟨f2 - 1, by omega⟩
          have t0 := (tr q3).1
          have t1 := (tr q3).2
          have ei : nI i * (12 : Int32) + nI j = nI (12 * i + j) := by rw [show nI i * (12 : Int32) = nI (i * 12) from pk_mul i 12, nI_add, Nat.mul_comm]
          have m1 : C (p + 1) i = o2i (s.1 i) := by rw [q3 _ (by omega)]; exact (h i (by omega)).1
          have m2 : C (p + 3) j = o2i (s.2.2 j) := by rw [q3 _ (by omega)]; exact (h j (by omega)).2.2
          have fin : ∀ v : Int32, (s.1 i = none → s.2.2 j = none → v = nI (rkC lim X Y i j)) → ∃ A', f_Pairs_rankOthers_15 p 4 r (nI lim) (nI i) (fun l4 h => f_Pairs_rankOthers_3 p 4 r (nI lim) g l4 h) g2 (nI (j + 1)) (Wd (up2 C (p + 4) (12 * i + j) v) I sw) = some (Wd A' I sw) ∧ RanksIs A' p lim X Y s ∧ (∀ a, a ≠ p + 4 → A' a = A a) := fun v hv => by
            refine ihd (j + 1) g2 _ (by omega) (by omega) (fun a ha => by rw [up2_fn ha]; exact q3 a ha) (fun a c hc w n1 n2 => ?_)
            rw [up2_at]
            by_cases e : 12 * a + c = 12 * i + j
            · have : a = i ∧ c = j := by omega
              rw [if_pos e, hv (by rw [← this.1]; exact n1) (by rw [← this.2]; exact n2), this.1, this.2]
            · rw [if_neg e]
              exact q4 a c hc (by omega) n1 n2
          rw [f_Pairs_rankOthers_15, Tree_size hr t1, sb, ifc (nI_leI (by omega) (by omega)), if_neg (by omega), P_r0 hp, sb, P_g0 hp (by omega), sb, m1, ifc (isNone1 hw hn1 i)]
          by_cases c1 : s.1 i = none
          · rw [if_pos c1, P_r2 hp, sb, P_g2 hp (by omega), sb, m2, ifc (isNone2 hw hn j)]
            by_cases c2 : s.2.2 j = none
            · rw [if_pos c2, sb, if_neg (show ¬ (1 : Int32) = 0 by decide), Tree_contentAt (by decide) t0 (by omega), sb, Tree_contentAt hr t1 (by omega), sb, rankOf (v0.2.1 i (by omega)).2 (v1.2.1 j (by omega)).2 (by omega), sb, sb, Tree_nameAt (by decide) t0 v0 (by omega), sb, Tree_nameAt hr t1 v1 (by omega), sb, P_r3 hp, sb, rank_val hl, ei, P_s3 hp (by omega), sb, add1]
              exact fin _ (fun _ _ => rfl)
            · rw [if_neg c2, sb, if_pos (show (0 : Int32) = 0 from rfl), sb, Tree_nameAt (by decide) t0 v0 (by omega), sb, Tree_nameAt hr t1 v1 (by omega), sb, P_r3 hp, sb, if_pos (show (0 : Int32) = 0 from rfl), ei, P_s3 hp (by omega), sb, add1]
              exact fin _ (fun _ n2 => absurd n2 c2)
          · rw [if_neg c1, sb, if_pos (show (0 : Int32) = 0 from rfl), sb, Tree_nameAt (by decide) t0 v0 (by omega), sb, Tree_nameAt hr t1 v1 (by omega), sb, P_r3 hp, sb, if_pos (show (0 : Int32) = 0 from rfl), ei, P_s3 hp (by omega), sb, add1]
            exact fin _ (fun n1 _ => absurd n1 c1)
      exact inner Y.1 0 FU B (by omega) (by rw [FU_eq]; omega) e3 (fun a c hc w => e4 a c (by omega) hc)
  unfold f_Pairs_rankOthers
  rw [P_ck hp]
  exact key X.1 0 FU A (by omega) (by rw [FU_eq]; omega) (fun _ _ => rfl) (fun a c ha => by omega)
end PC
