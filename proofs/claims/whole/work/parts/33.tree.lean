-- ===== valid folders, paths, contents, trees =====
def vF (f : Nat) : Bool := decide (f ≤ 444 ∧ f / 10 % 10 ≤ 4 ∧ f % 10 ≤ 4 ∧ (f / 100 ≠ 0 ∨ f / 10 % 10 = 0) ∧ (f / 10 % 10 ≠ 0 ∨ f % 10 = 0))
def vP (p : Nat) : Bool := vF (p / 10) && decide (p % 10 ≤ 7)
def vC (c : Nat) : Bool := decide (c = 1 ∨ (10 ≤ c ∧ c < 20) ∨ (100 ≤ c ∧ c < 200) ∨ (1000 ≤ c ∧ c < 2000) ∨ (10000 ≤ c ∧ c < 20000) ∨ (100000 ≤ c ∧ c < 200000) ∨ (1000000 ≤ c ∧ c < 2000000))
theorem vF_le {f : Nat} (h : vF f = true) : f ≤ 444 := by
  have := of_decide_eq_true h
  exact this.1
theorem vP_lt {p : Nat} (h : vP p = true) : p < 4450 := by
  unfold vP at h
  simp only [Bool.and_eq_true] at h
  have h1 := vF_le h.1
  omega
theorem vC_lt {c : Nat} (h : vC c = true) : 1 ≤ c ∧ c < 2000000 := by
  have := of_decide_eq_true h
  omega
def VT (X : Tre) : Prop := X.1 ≤ 12 ∧ (∀ i, i < X.1 → vP (X.2.1 i) = true ∧ vC (X.2.2 i) = true) ∧ ∀ i j, i < j → j < X.1 → X.2.1 i < X.2.1 j
theorem VT.p {X : Tre} (h : VT X) {i : Nat} (hi : i < X.1) : X.2.1 i < 4450 := vP_lt (h.2.1 i hi).1
theorem VT.c {X : Tre} (h : VT X) {i : Nat} (hi : i < X.1) : X.2.2 i < 2000000 := (vC_lt (h.2.1 i hi).2).2
theorem VT.inj {X : Tre} (h : VT X) {i j : Nat} (hi : i < X.1) (hj : j < X.1) (e : X.2.1 i = X.2.1 j) : i = j := by
  rcases Nat.lt_trichotomy i j with q | q | q
  · have := h.2.2 i j q hj; omega
  · exact q
  · have := h.2.2 j i q hi; omega
/-- where a path belongs in a tree -/
def pos (X : Tre) (p : Nat) : Nat := cnt (fun j => decide (X.2.1 j < p)) X.1
theorem cnt_split {q : Nat → Bool} {k : Nat} : ∀ n, k ≤ n → (∀ j, j < k → q j = true) → (∀ j, k ≤ j → j < n → q j = false) → cnt q n = k := by
  intro n
  induction n with
  | zero => intro h1 h2 h3; have : k = 0 := by omega
            rw [this]; rfl
  | succ n ih =>
    intro h1 h2 h3
    rw [cnt]
    by_cases hk : k ≤ n
    · rw [ih hk h2 (fun j a b => h3 j a (by omega)), h3 n hk (by omega)]
      simp
    · have : k = n + 1 := by omega
      subst this
      have e : cnt q n = n := by
        clear ih h1 h3 hk
        induction n with
        | zero => rfl
        | succ n ih2 => rw [cnt, ih2 (fun j hj => h2 j (by omega)), h2 n (by omega)]; simp
      rw [e, h2 n (by omega)]
      simp
theorem pos_spec {X : Tre} (h : VT X) (p : Nat) : pos X p ≤ X.1 ∧ (∀ j, j < pos X p → X.2.1 j < p) ∧ ∀ j, pos X p ≤ j → j < X.1 → p ≤ X.2.1 j := by
  -- the first that is not less
  cases e : fnd (fun j => !decide (X.2.1 j < p)) 0 X.1 with
  | none =>
    have h1 := fnd_none _ _ e
    have e2 : pos X p = X.1 := cnt_split _ (Nat.le_refl _) (fun j hj => by simpa using h1 j (Nat.zero_le _) (by omega)) (fun j a b => by omega)
    rw [e2]
    exact ⟨Nat.le_refl _, fun j hj => by simpa using h1 j (Nat.zero_le _) (by omega), fun j a b => by omega⟩
  | some k =>
    obtain ⟨-, h2, h3, h4⟩ := fnd_some _ _ _ e
    have hk : p ≤ X.2.1 k := by simpa using h3
    have hup : ∀ j, k ≤ j → j < X.1 → p ≤ X.2.1 j := fun j a b => by
      by_cases hjk : j = k
      · rw [hjk]; exact hk
      · have := h.2.2 k j (by omega) b
        omega
    have e2 : pos X p = k := cnt_split _ (by omega) (fun j hj => by simpa using h4 j (Nat.zero_le _) hj) (fun j a b => by have := hup j a b; simpa using this)
    rw [e2]
    exact ⟨by omega, fun j hj => by simpa using h4 j (Nat.zero_le _) hj, hup⟩
def isThere (X : Tre) (p : Nat) : Bool := decide (pos X p < X.1 ∧ X.2.1 (pos X p) = p)
theorem there_iff {X : Tre} (h : VT X) {p i : Nat} (hi : i < X.1) (e : X.2.1 i = p) : i = pos X p := by
  obtain ⟨h1, h2, h3⟩ := pos_spec h p
  by_cases hp : i < pos X p
  · have := h2 i hp; omega
  · by_cases hq : pos X p = i
    · exact hq.symm
    · have h4 := h3 (pos X p) (Nat.le_refl _) (by omega)
      have h5 := h.2.2 (pos X p) i (by omega) hi
      omega
def layT (X : Tre) (p c : Nat) : Tre := if isThere X p = true then (X.1, X.2.1, fun j => if j = pos X p then c else X.2.2 j) else (X.1 + 1, (fun j => if j < pos X p then X.2.1 j else if j = pos X p then p else X.2.1 (j - 1)), fun j => if j < pos X p then X.2.2 j else if j = pos X p then c else X.2.2 (j - 1))
def dropT (X : Tre) (i : Nat) : Tre := (X.1 - 1, (fun j => if j < i then X.2.1 j else X.2.1 (j + 1)), fun j => if j < i then X.2.2 j else X.2.2 (j + 1))
theorem layT_V {X : Tre} {p c : Nat} (h : VT X) (hp : vP p = true) (hc : vC c = true) (hr : isThere X p = true ∨ X.1 < 12) : VT (layT X p c) := by
  obtain ⟨h1, h2, h3⟩ := pos_spec h p
  unfold layT
  by_cases ht : isThere X p = true
  · rw [if_pos ht]
    refine ⟨h.1, fun i hi => ⟨(h.2.1 i hi).1, ?_⟩, h.2.2⟩
    show vC (if i = pos X p then c else X.2.2 i) = true
    split
    · exact hc
    · exact (h.2.1 i hi).2
  · rw [if_neg ht]
    have hn : X.1 < 12 := by rcases hr with q | q; exact absurd q ht; exact q
    refine ⟨hn, fun i hi => ⟨?_, ?_⟩, fun i j hij hj => ?_⟩
    · show vP (if i < pos X p then X.2.1 i else if i = pos X p then p else X.2.1 (i - 1)) = true
      have hi : i < X.1 + 1 := hi
      split
      · exact (h.2.1 i (by omega)).1
      · split
        · exact hp
        · exact (h.2.1 (i - 1) (by omega)).1
    · show vC (if i < pos X p then X.2.2 i else if i = pos X p then c else X.2.2 (i - 1)) = true
      have hi : i < X.1 + 1 := hi
      split
      · exact (h.2.1 i (by omega)).2
      · split
        · exact hc
        · exact (h.2.1 (i - 1) (by omega)).2
    · show (if i < pos X p then X.2.1 i else if i = pos X p then p else X.2.1 (i - 1)) < (if j < pos X p then X.2.1 j else if j = pos X p then p else X.2.1 (j - 1))
      have hj : j < X.1 + 1 := hj
      have hne : ∀ k, pos X p ≤ k → k < X.1 → p < X.2.1 k := by
        intro k a b
        have h4 := h3 k a b
        by_cases hk : X.2.1 k = p
        · have h5 := there_iff h b hk
          exact absurd (decide_eq_true ⟨by omega, by rw [← h5]; exact hk⟩) ht
        · omega
      by_cases a1 : j < pos X p
      · rw [if_pos a1, if_pos (by omega)]
        exact h.2.2 i j hij (by omega)
      · rw [if_neg a1]
        by_cases a2 : j = pos X p
        · rw [if_pos a2, if_pos (by omega)]
          exact h2 i (by omega)
        · rw [if_neg a2]
          have h6 := hne (j - 1) (by omega) (by omega)
          by_cases a3 : i < pos X p
          · rw [if_pos a3]
            have := h2 i a3; omega
          · rw [if_neg a3]
            by_cases a4 : i = pos X p
            · rw [if_pos a4]; exact h6
            · rw [if_neg a4]
              exact h.2.2 (i - 1) (j - 1) (by omega) (by omega)
theorem dropT_V {X : Tre} {i : Nat} (h : VT X) (hi : i < X.1) : VT (dropT X i) := by
  refine ⟨?_, fun k hk => ⟨?_, ?_⟩, fun a b hab hb => ?_⟩
  · show X.1 - 1 ≤ 12
    have := h.1; omega
  · have hk : k < X.1 - 1 := hk
    show vP (if k < i then X.2.1 k else X.2.1 (k + 1)) = true
    split
    · exact (h.2.1 k (by omega)).1
    · exact (h.2.1 (k + 1) (by omega)).1
  · have hk : k < X.1 - 1 := hk
    show vC (if k < i then X.2.2 k else X.2.2 (k + 1)) = true
    split
    · exact (h.2.1 k (by omega)).2
    · exact (h.2.1 (k + 1) (by omega)).2
  · have hb : b < X.1 - 1 := hb
    show (if a < i then X.2.1 a else X.2.1 (a + 1)) < (if b < i then X.2.1 b else X.2.1 (b + 1))
    split <;> split
    · exact h.2.2 a b hab (by omega)
    · exact h.2.2 a (b + 1) (by omega) (by omega)
    · omega
    · exact h.2.2 (a + 1) (b + 1) (by omega) (by omega)
-- ===== the class's trees =====
section CT
variable {A I : Nat → Nat → Int32} {sw : Bool} {r : Nat} {X : Tre}
theorem Tree_size (hr : isT r = true) (h : TreeIs A I r X) : f_Tree_size (Wd A I sw) r = some (nI X.1) := by
  unfold f_Tree_size
  rw [T_ck hr, T_n hr, sb, h.1]
theorem Tree_has_in (hr : isT r = true) (h : TreeIs A I r X) {i : Nat} (hi : i < X.1) : f_Tree_has (Wd A I sw) r (nI i) = some 1 := by
  have hb : X.1 ≤ 12 := h.2.1
  unfold f_Tree_has
  rw [T_ck hr, T_n hr, sb, h.1, if_neg (neg_lt0 (by omega)), if_neg (by rw [le_nI (by omega) (by omega)]; omega), sb, rz_1]
theorem Tree_has_out (hr : isT r = true) (h : TreeIs A I r X) {x : Int32} (hx : x < 0 ∨ nI X.1 ≤ x) : f_Tree_has (Wd A I sw) r x = some 0 := by
  unfold f_Tree_has
  rw [T_ck hr, T_n hr, sb, h.1]
  by_cases h0 : x < 0
  · rw [if_pos h0, sb, rz_0]
  · rw [if_neg h0]
    rcases hx with q | q
    · exact absurd q h0
    · rw [if_pos q, sb, rz_0]
theorem Tree_pathAt (hr : isT r = true) (h : TreeIs A I r X) {i : Nat} (hi : i < X.1) : f_Tree_pathAt (Wd A I sw) r (nI i) = some (nI (X.2.1 i)) := by
  have hb : X.1 ≤ 12 := h.2.1
  unfold f_Tree_pathAt
  rw [T_ck hr, Tree_has_in hr h hi, sb, if_neg (by decide), T_p hr, sb, T_gp hr (by omega), sb, sb, (h.2.2 i hi).1]
theorem Tree_contentAt (hr : isT r = true) (h : TreeIs A I r X) {i : Nat} (hi : i < X.1) : f_Tree_contentAt (Wd A I sw) r (nI i) = some (nI (X.2.2 i)) := by
  have hb : X.1 ≤ 12 := h.2.1
  unfold f_Tree_contentAt
  rw [T_ck hr, Tree_has_in hr h hi, sb, if_neg (by decide), T_c hr, sb, T_gc hr (by omega), sb, sb, (h.2.2 i hi).2]
theorem Tree_folderAt (hr : isT r = true) (h : TreeIs A I r X) (hv : VT X) {i : Nat} (hi : i < X.1) : f_Tree_folderAt (Wd A I sw) r (nI i) = some (nI (X.2.1 i / 10)) := by
  have hb : X.1 ≤ 12 := h.2.1
  have hp := hv.p hi
  unfold f_Tree_folderAt
  rw [T_ck hr, Tree_has_in hr h hi, sb, if_neg (by decide), T_p hr, sb, T_gp hr (by omega), sb, (h.2.2 i hi).1]
  unfold f_Letters_folderOf
  rw [sb, sb, div10 (by omega)]
theorem Tree_nameAt (hr : isT r = true) (h : TreeIs A I r X) (hv : VT X) {i : Nat} (hi : i < X.1) : f_Tree_nameAt (Wd A I sw) r (nI i) = some (nI (X.2.1 i % 10)) := by
  have hb : X.1 ≤ 12 := h.2.1
  have hp := hv.p hi
  unfold f_Tree_nameAt
  rw [T_ck hr, Tree_has_in hr h hi, sb, if_neg (by decide), T_p hr, sb, T_gp hr (by omega), sb, (h.2.2 i hi).1]
  unfold f_Letters_nameOf
  rw [sb, sb, rem10 (by omega)]
theorem Tree_liesIn_2 (hr : isT r = true) (h : TreeIs A I r X) (hv : VT X) {F : Nat} (hF : F < 2 ^ 31) : ∀ (k i f : Nat), i + k = X.1 → k < f → f_Tree_liesIn_2 (Wd A I sw) r (nI F) f (nI i) = some (if fnd (fun j => decide (X.2.1 j / 10 = F)) i k = none then 0 else 1) := by
  have hb : X.1 ≤ 12 := h.2.1
  intro k
  induction k with
  | zero =>
    intro i f h1 h2
    obtain ⟨g, rfl⟩ : ∃ g, f = g + 1 := ⟨f - 1, by omega⟩
    rw [f_Tree_liesIn_2, T_n hr, sb, h.1, if_pos (by rw [le_nI (by omega) (by omega)]; omega), rz_0]
    simp [fnd]
  | succ k ih =>
    intro i f h1 h2
    obtain ⟨g, rfl⟩ : ∃ g, f = g + 1 := ⟨f - 1, by omega⟩
    have hp := hv.p (i := i) (by omega)
    rw [f_Tree_liesIn_2, T_n hr, sb, h.1, if_neg (by rw [le_nI (by omega) (by omega)]; omega), Tree_folderAt hr h hv (by omega), sb, ifc (nI_eq (by omega) hF), fnd]
    by_cases hq : X.2.1 i / 10 = F
    · rw [if_pos hq, rz_1]
      simp [hq]
    · rw [if_neg hq, add1, ih (i + 1) g (by omega) (by omega)]
      simp [hq]
theorem Tree_liesIn (hr : isT r = true) (h : TreeIs A I r X) (hv : VT X) {F : Nat} (hF : F < 2 ^ 31) : f_Tree_liesIn (Wd A I sw) r (nI F) = some (if fnd (fun j => decide (X.2.1 j / 10 = F)) 0 X.1 = none then 0 else 1) := by
  have hb : X.1 ≤ 12 := h.2.1
  unfold f_Tree_liesIn
  rw [T_ck hr]
  exact Tree_liesIn_2 hr h hv hF X.1 0 FU (by omega) (by rw [FU_eq]; omega)
theorem Tree_find_2 (hr : isT r = true) (h : TreeIs A I r X) (hv : VT X) {p : Nat} (hp : p < 2 ^ 31) : ∀ (k i f : Nat), i + k = X.1 → k < f → f_Tree_find_2 (Wd A I sw) r (nI p) f (nI i) = some (o2i (fnd (fun j => decide (X.2.1 j = p)) i k)) := by
  have hb : X.1 ≤ 12 := h.2.1
  intro k
  induction k with
  | zero =>
    intro i f h1 h2
    obtain ⟨g, rfl⟩ : ∃ g, f = g + 1 := ⟨f - 1, by omega⟩
    rw [f_Tree_find_2, T_n hr, sb, h.1, if_pos (by rw [le_nI (by omega) (by omega)]; omega)]
    rfl
  | succ k ih =>
    intro i f h1 h2
    obtain ⟨g, rfl⟩ : ∃ g, f = g + 1 := ⟨f - 1, by omega⟩
    have hpi := hv.p (i := i) (by omega)
    rw [f_Tree_find_2, T_n hr, sb, h.1, if_neg (by rw [le_nI (by omega) (by omega)]; omega), T_p hr, sb, T_gp hr (by omega), sb, (h.2.2 i (by omega)).1, ifc (nI_eq (by omega) hp), fnd]
    by_cases hq : X.2.1 i = p
    · rw [if_pos hq]
      simp [hq, o2i]
    · rw [if_neg hq, add1, ih (i + 1) g (by omega) (by omega)]
      simp [hq]
theorem Tree_find (hr : isT r = true) (h : TreeIs A I r X) (hv : VT X) {p : Nat} (hp : p < 2 ^ 31) : f_Tree_find (Wd A I sw) r (nI p) = some (o2i (if isThere X p = true then some (pos X p) else none)) := by
  have hb : X.1 ≤ 12 := h.2.1
  unfold f_Tree_find
  rw [T_ck hr]
  have e := Tree_find_2 (sw := sw) hr h hv hp X.1 0 FU (by omega) (by rw [FU_eq]; omega)
  have e2 : fnd (fun j => decide (X.2.1 j = p)) 0 X.1 = (if isThere X p = true then some (pos X p) else none) := by
    by_cases ht : isThere X p = true
    · rw [if_pos ht]
      have h1 := of_decide_eq_true ht
      refine fnd_eq (Nat.zero_le _) (by omega) (by simpa using h1.2) (fun t _ h3 => ?_)
      have := (pos_spec hv p).2.1 t h3
      simp
      omega
    · rw [if_neg ht]
      refine fnd_no (fun t _ h2 => ?_)
      simp
      intro h3
      have h4 := there_iff hv (i := t) (by omega) h3
      exact ht (decide_eq_true ⟨by omega, by rw [← h4]; exact h3⟩)
  rw [e2] at e
  exact e
end CT
