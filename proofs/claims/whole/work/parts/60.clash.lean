-- ===== clashes =====
def orc (d : Nat → Ent) : Nat → Nat → Nat
  | 0, _ => 0
  | i + 1, p => if (d i).1 = p then orc d i p ||| (d i).2.2.1 else orc d i p
theorem orc_lt {d : Nat → Ent} : ∀ n, (∀ i, i < n → (d i).2.2.1 < 16) → ∀ p, orc d n p < 16 := by
  intro n
  induction n with
  | zero => intro _ p; exact (by decide : 0 < 16)
  | succ n ih =>
    intro h p
    rw [orc]
    have h1 := ih (fun i hi => h i (by omega)) p
    split
    · exact (or16 _ h1 _ (h n (by omega))).2
    · exact h1
theorem or_0 : ∀ a, a < 16 → ∀ b, b < 16 → (a ||| b = 0 ↔ a = 0 ∧ b = 0) := by decide
theorem orc_0 {d : Nat → Ent} : ∀ n, (∀ i, i < n → (d i).2.2.1 < 16) → ∀ p, orc d n p = 0 ↔ ∀ j, j < n → (d j).1 = p → (d j).2.2.1 = 0 := by
  intro n
  induction n with
  | zero => intro _ p; exact ⟨fun _ j hj => by omega, fun _ => rfl⟩
  | succ n ih =>
    intro h p
    have h1 := ih (fun i hi => h i (by omega)) p
    have h2 := orc_lt n (fun i hi => h i (by omega)) p
    rw [orc]
    by_cases c : (d n).1 = p
    · rw [if_pos c, or_0 _ h2 _ (h n (by omega)), h1]
      constructor
      · rintro ⟨a, b⟩ j hj e
        by_cases q : j = n
        · rw [q]; exact b
        · exact a j (by omega) e
      · intro a
        exact ⟨fun j hj e => a j (by omega) e, a n (by omega) c⟩
    · rw [if_neg c, h1]
      constructor
      · intro a j hj e
        by_cases q : j = n
        · rw [q] at e; exact absurd e c
        · exact a j (by omega) e
      · intro a j hj e
        exact a j (by omega) e
/-- the paths that clash, in their order -/
def ClIs (d : Nat → Ent) (n m : Nat) (cp : Nat → Nat) : Prop := (∀ k, k < m → ∃ j, j < n ∧ (d j).1 = cp k ∧ (d j).2.2.1 ≠ 0) ∧ (∀ j, j < n → (d j).2.2.1 ≠ 0 → ∃ k, k < m ∧ cp k = (d j).1) ∧ ∀ a b, a < b → b < m → cp a < cp b
def ClC (A I : Nat → Nat → Int32) (d : Nat → Ent) (n m : Nat) (cp : Nat → Nat) : Prop := I 56 7 = nI m ∧ m ≤ n ∧ (∀ k, k < m → A 61 k = nI (cp k) ∧ A 62 k = nI (orc d n (cp k))) ∧ ClIs d n m cp
theorem So_mono {d : Nat → Ent} {n : Nat} (h : SoE d n) (hv : ∀ i, i < n → VE (d i)) {i j : Nat} (hij : i ≤ j) (hj : j < n) : (d i).1 ≤ (d j).1 := by
  by_cases c : i = j
  · rw [c]; exact Nat.le_refl _
  · exact ky_path (hv i (by omega)) (hv j hj) (h i j (by omega) hj)
section GC
variable {A I : Nat → Nat → Int32} {sw : Bool} {n : Nat} {d : Nat → Ent}
theorem Merge_gatherClashes (h : EntC A I n d) (hs : SoE d n) : ∃ A' I' m cp, f_Merge_gatherClashes (Wd A I sw) 56 = some (Wd A' I' sw) ∧ ClC A' I' d n m cp ∧ (∀ a, a ≠ 61 → a ≠ 62 → A' a = A a) ∧ ∀ a b, (a ≠ 56 ∨ b ≠ 7) → I' a b = I a b := by
  obtain ⟨h1, h2, h3⟩ := h
  have hv : ∀ i, i < n → VE (d i) := fun i hi => (h3 i hi).2
  have hz : ∀ i, i < n → (d i).2.2.1 < 16 := fun i hi => (hv i hi).b.2.2.1
  have key : ∀ (k i f : Nat) (B J : Nat → Nat → Int32) (m : Nat) (cp : Nat → Nat), i + k = n → k < f → (∀ a, a ≠ 61 → a ≠ 62 → B a = A a) → (∀ a b, (a ≠ 56 ∨ b ≠ 7) → J a b = I a b) → ClC B J d i m cp → ∃ A' I' m' cp', f_Merge_gatherClashes_7 56 f (nI i) (Wd B J sw) = some (Wd A' I' sw) ∧ ClC A' I' d n m' cp' ∧ (∀ a, a ≠ 61 → a ≠ 62 → A' a = A a) ∧ ∀ a b, (a ≠ 56 ∨ b ≠ 7) → I' a b = I a b := by
    intro k
    induction k with
    | zero =>
      intro i f B J m cp e1 e2 e3 e4 e5
      obtain ⟨f, rfl⟩ : ∃ g, f = g + 1 := ⟨f - 1, by omega⟩
      have hi : i = n := by omega
      subst hi
      refine ⟨B, J, m, cp, ?_, e5, e3, e4⟩
      rw [f_Merge_gatherClashes_7, gg_56_4, sb, e4 56 4 (by decide), h1, if_pos (Int32.le_refl _)]
    | succ k ih =>
      intro i f B J m cp e1 e2 e3 e4 e5
      obtain ⟨f, rfl⟩ : ∃ g, f = g + 1 := ⟨f - 1, by omega⟩
      obtain ⟨c1, c2, c3, c4, c5, c6⟩ := e5
      obtain ⟨⟨r1, r2, r3, r4⟩, vi⟩ := h3 i (by omega)
      have bi := vi.b
      have r3 : A 59 i = nI (d i).2.2.1 := r3
      have g57 : B 57 i = nI (d i).1 := by rw [e3 57 (by decide) (by decide)]; exact r1
      have g59 : B 59 i = nI (d i).2.2.1 := by rw [e3 59 (by decide) (by decide)]; exact r3
      have hpl : ∀ q, q < m → cp q ≤ (d i).1 := fun q hq => by
        obtain ⟨j, a1, a2, a3⟩ := c4 q hq
        rw [← a2]
        exact So_mono hs hv (by omega) (by omega)
      rw [f_Merge_gatherClashes_7, gg_56_4, sb, e4 56 4 (by decide), h1, ifc (nI_leI (by omega) (by omega)), if_neg (by omega), rr_56_2, sb, ga_59 (by omega), sb, g59, ifc (eq0 (by omega)), add1]
      by_cases z0 : (d i).2.2.1 = 0
      · rw [if_pos z0, sb]
        refine ih (i + 1) f B J m cp (by omega) (by omega) e3 e4 ⟨c1, by omega, fun q hq => ⟨(c3 q hq).1, ?_⟩, fun q hq => ?_, fun j hj hne => ?_, c6⟩
        · rw [(c3 q hq).2, orc]
          split
          · rw [z0, Nat.or_zero]
          · rfl
        · obtain ⟨j, a1, a2, a3⟩ := c4 q hq
          exact ⟨j, by omega, a2, a3⟩
        · exact c5 j (by
            by_cases q : j = i
            · rw [q] at hne; exact absurd z0 hne
            · omega) hne
      · -- one more path
        have push : (∀ q, q < m → cp q < (d i).1) → ∃ A' I' m' cp', (((sA (Wd B J sw) 61 (nI m) (nI (d i).1)).bind fun h12 => (gR h12 2 56 6).bind fun t13 => (gI h12 2 56 7).bind fun t14 => (sA h12 t13 t14 (0 : Int32)).bind fun h15 => (gI h15 2 56 7).bind fun t16 => (sI h15 2 56 7 (t16 + (1 : Int32))).bind fun h17 => some h17).bind fun h7 => (gR h7 2 56 6).bind fun t33 => (gI h7 2 56 7).bind fun t34 => (gA h7 false t33 (t34 - (1 : Int32))).bind fun t35 => (gR h7 2 56 2).bind fun t36 => (gA h7 false t36 (nI i)).bind fun t37 => (sA h7 t33 (t34 - (1 : Int32)) (t35 ||| t37)).bind fun h38 => some h38).bind (fun h5 => f_Merge_gatherClashes_7 56 f (nI (i + 1)) h5) = some (Wd A' I' sw) ∧ ClC A' I' d n m' cp' ∧ (∀ a, a ≠ 61 → a ≠ 62 → A' a = A a) ∧ ∀ a b, (a ≠ 56 ∨ b ≠ 7) → I' a b = I a b := by
          intro hlt
          have ho : orc d (i + 1) (d i).1 = (d i).2.2.1 := by
            rw [orc, if_pos rfl, (orc_0 i (fun j hj => hz j (by omega)) (d i).1).mpr (fun j hj e => ?_), Nat.zero_or]
            by_cases q : (d j).2.2.1 = 0
            · exact q
            · obtain ⟨w, a1, a2⟩ := c5 j hj q
              have := hlt w a1
              omega
          rw [sa_61 (by omega), sb, rr_56_6, sb, gg_56_7, sb, c1, sa_62 (by omega), sb, gg_56_7, sb, c1, add1, ss_56_7, sb, sb, rr_56_6, sb, gg_56_7, sb, up2_s, sub1 (by omega), show m + 1 - 1 = m by omega, ga_62 (by omega), sb, up2_s, rr_56_2, sb, ga_59 (by omega), sb, up2_n (by decide), up2_n (by decide), g59, sa_62 (by omega), sb, sb]
          refine ih (i + 1) f _ _ (m + 1) (fun q => if q = m then (d i).1 else cp q) (by omega) (by omega) (fun a a1 a2 => by rw [up2_fn a2, up2_fn a2, up2_fn a1]; exact e3 a a1 a2) (fun a b hab => ?_) ⟨up2_s _ _ _ _, by omega, fun q hq => ?_, fun q hq => ?_, fun j hj hne => ?_, fun a b hab hb => ?_⟩
          · by_cases q : a = 56
            · rw [up2_m (by omega)]; exact e4 a b hab
            · rw [up2_n q]; exact e4 a b hab
          · simp only [up2_at, up2_n (show 61 ≠ 62 by decide), up2_n (show 62 ≠ 61 by decide)]
            by_cases w : q = m
            · simp only [if_pos w]
              rw [ho, show (0 : Int32) = nI 0 from rfl, (or16 0 (by decide) _ (hz i (by omega))).1, Nat.zero_or]
              exact ⟨trivial, rfl⟩
            · simp only [if_neg w]
              refine ⟨(c3 q (by omega)).1, ?_⟩
              rw [(c3 q (by omega)).2, orc, if_neg (fun z => by have := hlt q (by omega); omega)]
          · dsimp only
            by_cases w : q = m
            · rw [if_pos w]; exact ⟨i, by omega, rfl, z0⟩
            · rw [if_neg w]
              obtain ⟨j, a1, a2, a3⟩ := c4 q (by omega)
              exact ⟨j, by omega, a2, a3⟩
          · dsimp only
            by_cases w : j = i
            · exact ⟨m, by omega, by rw [if_pos rfl, w]⟩
            · obtain ⟨q, a1, a2⟩ := c5 j (by omega) hne
              exact ⟨q, by omega, by rw [if_neg (by omega)]; exact a2⟩
          · dsimp only
            by_cases w : b = m
            · rw [if_pos w, if_neg (show ¬ a = m by omega)]; exact hlt a (by omega)
            · rw [if_neg w, if_neg (show ¬ a = m by omega)]; exact c6 a b hab (by omega)
        rw [if_neg z0, gg_56_7, sb, c1, ifc (eq0 (by omega)), rr_56_5, sb, sb, rr_56_0, sb, ga_57 (by omega), sb, g57]
        by_cases m0 : m = 0
        · rw [if_pos m0]
          exact push (fun q hq => by omega)
        · have hl := c3 (m - 1) (by omega)
          rw [if_neg m0, sb, sb, sub1 (by omega), ga_61 (by omega), sb, hl.1, sb, ga_57 (by omega), sb, g57, ifc (nI_eq (by have := hpl (m - 1) (by omega); omega) (by omega))]
          by_cases w : cp (m - 1) = (d i).1
          · have hmon : orc d i (cp (m - 1)) < 16 := orc_lt i (fun j hj => hz j (by omega)) _
            rw [if_pos w, sb, rr_56_6, sb, gg_56_7, sb, c1, sub1 (by omega), ga_62 (by omega), sb, hl.2, rr_56_2, sb, ga_59 (by omega), sb, g59, (or16 _ hmon _ (hz i (by omega))).1, sa_62 (by omega), sb, sb]
            refine ih (i + 1) f _ J m cp (by omega) (by omega) (fun a a1 a2 => by rw [up2_fn a2]; exact e3 a a1 a2) e4 ⟨c1, by omega, fun q hq => ?_, fun q hq => ?_, fun j hj hne => ?_, c6⟩
            · simp only [up2_at, up2_n (show 61 ≠ 62 by decide)]
              refine ⟨(c3 q hq).1, ?_⟩
              by_cases x : q = m - 1
              · rw [if_pos x, x, orc, if_pos w.symm]
              · rw [if_neg x, (c3 q hq).2, orc, if_neg (fun y => by have := c6 q (m - 1) (by omega) (by omega); omega)]
            · obtain ⟨j, a1, a2, a3⟩ := c4 q hq
              exact ⟨j, by omega, a2, a3⟩
            · by_cases x : j = i
              · exact ⟨m - 1, by omega, by rw [x]; exact w⟩
              · exact c5 j (by omega) hne
          · rw [if_neg w]
            refine push (fun q hq => ?_)
            have y1 := hpl (m - 1) (by omega)
            by_cases x : q = m - 1
            · rw [x]; omega
            · have := c6 q (m - 1) (by omega) (by omega)
              omega
  unfold f_Merge_gatherClashes
  rw [kk_56, ss_56_7, sb]
  refine key n 0 FU A _ 0 (fun _ => 0) (by omega) (by rw [FU_eq]; omega) (fun _ _ _ => rfl) (fun a b hab => ?_) ⟨up2_s _ _ _ _, by omega, fun q hq => by omega, fun q hq => by omega, fun j hj => by omega, fun a b _ hb => by omega⟩
  by_cases q : a = 56
  · exact up2_m (by omega)
  · exact up2_n q
end GC
