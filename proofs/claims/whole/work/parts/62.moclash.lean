-- ===== clashes: the reference =====
def clR (d : Nat → Ent) (n m : Nat) (cp : Nat → Nat) (l1 l2 : Int32) : Int32 := match fnd (fun q => decide (l1 = nI q)) 0 m with
  | some q => if l2 = (0 : Int32) then nI (cp q) else nI (orc d n (cp q))
  | none => if l1 = (-1 : Int32) then nI m else (-6 : Int32)
theorem clR_some {d : Nat → Ent} {n m q : Nat} {cp : Nat → Nat} {l2 : Int32} (hq : q < m) (hm : m ≤ 36) : clR d n m cp (nI q) l2 = if l2 = (0 : Int32) then nI (cp q) else nI (orc d n (cp q)) := by
  unfold clR
  have e : fnd (fun t => decide (nI q = nI t)) 0 m = some q := fnd_eq (Nat.zero_le _) (by omega) (decide_eq_true rfl) (fun t _ ht => decide_eq_false (fun z => by have := (nI_eq (by omega) (by omega)).mp z; omega))
  rw [e]
theorem clR_none {d : Nat → Ent} {n m : Nat} {cp : Nat → Nat} {l1 l2 : Int32} (h : ∀ q, q < m → l1 ≠ nI q) : clR d n m cp l1 l2 = if l1 = (-1 : Int32) then nI m else (-6 : Int32) := by
  unfold clR
  rw [fnd_no (fun t _ ht => decide_eq_false (h t (by omega)))]
section QM
variable {A I : Nat → Nat → Int32} {sw : Bool} {n m : Nat} {d : Nat → Ent} {cp : Nat → Nat}
theorem Mo_causesAt (h : EntM A I n d) {p : Nat} (hp : p < 2 ^ 31) : f_Mo_causesAt (Wd A I sw) 64 (nI p) = some (nI (orc d n p)) := by
  obtain ⟨h1, h2, h3⟩ := h
  have key : ∀ (k i f : Nat), i + k = n → k < f → f_Mo_causesAt_4 (Wd A I sw) 64 (nI p) f (nI (orc d i p)) (nI i) = some (nI (orc d n p)) := by
    intro k
    induction k with
    | zero =>
      intro i f e1 e2
      obtain ⟨f, rfl⟩ : ∃ g, f = g + 1 := ⟨f - 1, by omega⟩
      have hi : i = n := by omega
      subst hi
      rw [f_Mo_causesAt_4, gg_64_20, sb, h1, if_pos (Int32.le_refl _)]
    | succ k ih =>
      intro i f e1 e2
      obtain ⟨f, rfl⟩ : ∃ g, f = g + 1 := ⟨f - 1, by omega⟩
      obtain ⟨⟨r1, r2, r3, r4⟩, vi⟩ := h3 i (by omega)
      have r3 : A 76 i = nI (d i).2.2.1 := r3
      have bi := vi.b
      have hl := orc_lt i (fun j hj => ((h3 j (by omega)).2.b).2.2.1) p
      have := ih (i + 1) f (by omega) (by omega)
      rw [orc] at this
      rw [f_Mo_causesAt_4, gg_64_20, sb, h1, ifc (nI_leI (by omega) (by omega)), if_neg (by omega), rr_64_16, sb, ga_74 (by omega), sb, r1, ifc (nI_eq (by omega) hp), rr_64_18, sb, ga_76 (by omega), sb, r3, add1]
      by_cases c : (d i).1 = p
      · rw [if_pos c, sb, (or16 _ hl _ bi.2.2.1).1]
        rw [if_pos c] at this
        exact this
      · rw [if_neg c, sb, show (0 : Int32) = nI 0 from rfl, (or16 _ hl 0 (by decide)).1, Nat.or_zero]
        rw [if_neg c] at this
        exact this
  unfold f_Mo_causesAt
  rw [kk_64]
  exact key n 0 FU (by omega) (by rw [FU_eq]; omega)
theorem Mo_clash_31 (h : EntM A I n d) (hs : SoE d n) (hm : m ≤ n) (hc : ClIs d n m cp) (l1 l2 : Int32) : f_Mo_clash_31 (Wd A I sw) 64 l1 l2 FU (0 : Int32) (0 : Int32) = some (clR d n m cp l1 l2, Wd A I sw) := by
  have hE := h
  obtain ⟨h1, h2, h3⟩ := h
  obtain ⟨c1, c2, c3⟩ := hc
  have hv : ∀ i, i < n → VE (d i) := fun i hi => (h3 i hi).2
  have key : ∀ (k i f q : Nat), i + k = n → k < f → q ≤ m → (∀ r, r < m → (r < q ↔ ∃ j, j < i ∧ (d j).1 = cp r)) → (∀ r, r < q → l1 ≠ nI r) → f_Mo_clash_31 (Wd A I sw) 64 l1 l2 f (nI q) (nI i) = some (clR d n m cp l1 l2, Wd A I sw) := by
    intro k
    induction k with
    | zero =>
      intro i f q e1 e2 e3 e4 e5
      obtain ⟨f, rfl⟩ : ∃ g, f = g + 1 := ⟨f - 1, by omega⟩
      have hi : i = n := by omega
      subst hi
      have hq : q = m := by
        by_cases z : q < m
        · obtain ⟨j, a1, a2, a3⟩ := c1 q z
          have := (e4 q z).mpr ⟨j, a1, a2⟩
          omega
        · omega
      subst hq
      rw [f_Mo_clash_31, gg_64_20, sb, h1, if_pos (Int32.le_refl _), clR_none e5]
    | succ k ih =>
      intro i f q e1 e2 e3 e4 e5
      obtain ⟨f, rfl⟩ : ∃ g, f = g + 1 := ⟨f - 1, by omega⟩
      obtain ⟨⟨r1, -, -, -⟩, vi⟩ := h3 i (by omega)
      have bi := vi.b
      have skip : (∀ r, r < m → cp r = (d i).1 → ∃ j, j < i ∧ (d j).1 = cp r) → f_Mo_clash_31 (Wd A I sw) 64 l1 l2 f (nI q) (nI (i + 1)) = some (clR d n m cp l1 l2, Wd A I sw) := by
        intro hn
        refine ih (i + 1) f q (by omega) (by omega) e3 (fun r hr => (e4 r hr).trans ⟨?_, ?_⟩) e5
        · rintro ⟨j, a, b⟩; exact ⟨j, by omega, b⟩
        · rintro ⟨j, a, b⟩
          by_cases z : j = i
          · rw [z] at b; exact hn r hr b.symm
          · exact ⟨j, by omega, b⟩
      -- the first of its path
      have fst : (∀ j, j < i → (d j).1 ≠ (d i).1) → (if nI (orc d n (d i).1) = (0 : Int32) then f_Mo_clash_31 (Wd A I sw) 64 l1 l2 f (nI q) (nI (i + 1)) else (if nI q = l1 then ((if l2 = (0 : Int32) then some (nI (d i).1) else some (nI (orc d n (d i).1))).bind fun t12 => some (t12, Wd A I sw)) else f_Mo_clash_31 (Wd A I sw) 64 l1 l2 f (nI (q + 1)) (nI (i + 1)))) = some (clR d n m cp l1 l2, Wd A I sw) := by
        intro hf
        have hl := orc_lt n (fun j hj => (hv j hj).b.2.2.1) (d i).1
        rw [ifc (eq0 (by omega))]
        by_cases z : orc d n (d i).1 = 0
        · rw [if_pos z]
          refine skip (fun r hr e => ?_)
          obtain ⟨j, a1, a2, a3⟩ := c1 r hr
          exact absurd ((orc_0 n (fun j hj => (hv j hj).b.2.2.1) (d i).1).mp z j a1 (a2.trans e)) a3
        · rw [if_neg z]
          obtain ⟨j, a1, a2, a3⟩ : ∃ j, j < n ∧ (d j).1 = (d i).1 ∧ (d j).2.2.1 ≠ 0 := by
            refine Classical.byContradiction (fun w => z ((orc_0 n (fun j hj => (hv j hj).b.2.2.1) (d i).1).mpr (fun j hj e => ?_)))
            exact Classical.byContradiction (fun u => w ⟨j, hj, e, u⟩)
          obtain ⟨r, b1, b2⟩ := c2 j a1 a3
          have b3 : cp r = (d i).1 := b2.trans a2
          have hr : ¬ r < q := fun u => by
            obtain ⟨t, u1, u2⟩ := (e4 r b1).mp u
            exact hf t u1 (u2.trans b3)
          have hq : r = q := by
            by_cases u : q < r
            · have u1 := c3 q r u b1
              obtain ⟨t, u2, u3, u4⟩ := c1 q (by omega)
              have u5 : ¬ t < i := fun x => by have := (e4 q (by omega)).mpr ⟨t, x, u3⟩; omega
              have := So_mono hs hv (show i ≤ t by omega) u2
              omega
            · omega
          subst hq
          by_cases w : nI r = l1
          · rw [if_pos w, ← w, clR_some b1 (by omega), b3]
            split <;> rfl
          · rw [if_neg w]
            refine ih (i + 1) f (r + 1) (by omega) (by omega) (by omega) (fun t ht => ⟨fun u => ?_, ?_⟩) (fun t ht => ?_)
            · by_cases x : t = r
              · rw [x]; exact ⟨i, by omega, b3.symm⟩
              · obtain ⟨y, y1, y2⟩ := (e4 t ht).mp (by omega)
                exact ⟨y, by omega, y2⟩
            · rintro ⟨y, y1, y2⟩
              by_cases x : y = i
              · rw [x, ← b3] at y2
                have : t = r := by
                  rcases Nat.lt_trichotomy t r with s | s | s
                  · have := c3 t r s b1; omega
                  · exact s
                  · have := c3 r t s ht; omega
                omega
              · have := (e4 t ht).mpr ⟨y, by omega, y2⟩
                omega
            · by_cases x : t = r
              · rw [x]; exact fun u => w u.symm
              · exact e5 t (by omega)
      rw [f_Mo_clash_31, gg_64_20, sb, h1, ifc (nI_leI (by omega) (by omega)), if_neg (by omega), ifc (eq0 (by omega))]
      simp only [rr_64_16, sb, ga_74 (show i < 36 by omega), r1, Mo_causesAt hE (show (d i).1 < 2 ^ 31 by omega), add1]
      by_cases i0 : i = 0
      · rw [if_pos i0, sb, if_neg (by decide)]
        exact fst (fun j hj => by omega)
      · have s1 : nI i - (1 : Int32) = nI (i - 1) := sub1 (by omega)
        obtain ⟨⟨p1, -, -, -⟩, vp⟩ := h3 (i - 1) (by omega)
        have bp := vp.b
        rw [if_neg i0, s1, ga_74 (by omega), sb, p1, ifc (nI_eq (by omega) (by omega))]
        by_cases w : (d i).1 = (d (i - 1)).1
        · rw [if_pos w, sb, if_pos rfl]
          exact skip (fun r hr e => ⟨i - 1, by omega, by rw [e, w]⟩)
        · rw [if_neg w, sb, if_neg (by decide)]
          refine fst (fun j hj e => w ?_)
          have y1 := So_mono hs hv (show j ≤ i - 1 by omega) (by omega)
          have y2 := So_mono hs hv (show i - 1 ≤ i by omega) (by omega)
          omega
  exact key n 0 FU 0 (by omega) (by rw [FU_eq]; omega) (by omega) (fun r hr => ⟨fun u => by omega, fun ⟨j, hj, _⟩ => by omega⟩) (fun r hr => by omega)
end QM
