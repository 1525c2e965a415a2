-- ===== the reference's trees =====
def MTree (A : Nat → Nat → Int32) (t : Nat) (X : Tre) : Prop := A 67 t = nI X.1 ∧ X.1 ≤ 12 ∧ ∀ i, i < X.1 → A 65 (12 * t + i) = nI (X.2.1 i) ∧ A 66 (12 * t + i) = nI (X.2.2 i)
/-- only the reference's tree t was changed -/
def MFr (t : Nat) (A A' : Nat → Nat → Int32) : Prop := (∀ a, a ≠ 65 → a ≠ 66 → a ≠ 67 → A' a = A a) ∧ (∀ j, (j < 12 * t ∨ 12 * t + 12 ≤ j) → A' 65 j = A 65 j ∧ A' 66 j = A 66 j) ∧ ∀ j, j ≠ t → A' 67 j = A 67 j
theorem MFr.other {t u : Nat} {A A' : Nat → Nat → Int32} {X : Tre} (f : MFr t A A') (hne : u ≠ t) (h : MTree A u X) : MTree A' u X := by
  refine ⟨(f.2.2 u hne).trans h.1, h.2.1, fun i hi => ?_⟩
  have hn := h.2.1
  have := f.2.1 (12 * u + i) (by omega)
  rw [this.1, this.2]
  exact h.2.2 i hi
theorem mix (t i : Nat) : (12 : Int32) * nI t + nI i = nI (12 * t + i) := by
  rw [show (12 : Int32) * nI t = nI (12 * t) from pk_mul 12 t, nI_add]
theorem m12 (t : Nat) : (12 : Int32) * nI t = nI (12 * t) := pk_mul 12 t
-- which numbers are trees, sides, files
theorem tri (x : Int32) : (∃ t, t < 3 ∧ x = nI t) ∨ (x < 0 ∨ nI 3 ≤ x) := by
  rcases pk_ix x (n := 3) (by decide) with h | h | ⟨j, h1, h2⟩
  · exact Or.inr (Or.inl h)
  · exact Or.inr (Or.inr h)
  · exact Or.inl ⟨j, h1, h2⟩
theorem no_in {x : Int32} {n : Nat} (hn : n < 2 ^ 31) (h : x < 0 ∨ nI n ≤ x) {t : Nat} (ht : t < n) : x ≠ nI t := by
  rintro rfl
  rcases h with h | h
  · exact nI_pos (by omega) h
  · rw [nI_leI hn (by omega)] at h
    omega
theorem Mo_isTree_in {t : Nat} (h : t < 3) : f_Mo_isTree (nI t) = some 1 := by
  unfold f_Mo_isTree
  rw [inN (a := 0) (b := 2) (lo := 0) (hi := 2) rfl rfl (by omega) (by decide) (by decide), if_pos ⟨by omega, by omega⟩, sb, rz_1]
theorem out_cond {x : Int32} {n : Nat} (hn : n < 2 ^ 31) (h : x < 0 ∨ nI (n + 1) ≤ x) (hn1 : n + 1 < 2 ^ 31) : ¬ ((0 : Int32) ≤ x ∧ x ≤ nI n) := by
  rintro ⟨h1, h2⟩
  rw [Int32.le_iff_toInt_le] at h1 h2
  rw [nI_toInt hn] at h2
  rcases h with h | h
  · rw [Int32.lt_iff_toInt_lt] at h
    have : (0 : Int32).toInt = 0 := rfl
    omega
  · rw [Int32.le_iff_toInt_le, nI_toInt hn1] at h
    omega
theorem Mo_isTree_out {x : Int32} (h : x < 0 ∨ nI 3 ≤ x) : f_Mo_isTree x = some 0 := by
  unfold f_Mo_isTree
  rw [inL x 0 (nI 2) (a := 0) (b := 2) rfl rfl, if_neg (out_cond (n := 2) (by decide) h (by decide)), sb, rz_0]
theorem Mo_isSide_in {t : Nat} (h1 : 1 ≤ t) (h : t < 3) : f_Mo_isSide (nI t) = some 1 := by
  unfold f_Mo_isSide
  rw [inN (a := 1) (b := 2) (lo := 1) (hi := 2) rfl rfl (by omega) (by decide) (by decide), if_pos ⟨by omega, by omega⟩, sb, rz_1]
theorem Mo_isSide_out {x : Int32} (h : x = nI 0 ∨ x < 0 ∨ nI 3 ≤ x) : f_Mo_isSide x = some 0 := by
  unfold f_Mo_isSide
  rw [inL x (nI 1) (nI 2) (a := 1) (b := 2) rfl rfl, if_neg, sb, rz_0]
  rintro ⟨h1, h2⟩
  rcases h with h | h
  · subst h
    rw [nI_leI (by decide) (by decide)] at h1
    omega
  · refine out_cond (n := 2) (by decide) h (by decide) ⟨?_, h2⟩
    rw [Int32.le_iff_toInt_le] at h1 ⊢
    rw [nI_toInt (by decide)] at h1
    have : (0 : Int32).toInt = 0 := rfl
    omega
theorem MF_isSide_in {t : Nat} (h1 : 1 ≤ t) (h : t < 3) : f_MF_isSide (nI t) = some 1 := by
  rcases (show t = 1 ∨ t = 2 by omega) with rfl | rfl <;> decide
theorem MF_isSide_out {x : Int32} (h : x = nI 0 ∨ x < 0 ∨ nI 3 ≤ x) : f_MF_isSide x = some 0 := by
  have a1 : x ≠ nI 1 := by
    rcases h with h | h
    · subst h; decide
    · exact no_in (n := 3) (by decide) h (by decide)
  have a2 : x ≠ nI 2 := by
    rcases h with h | h
    · subst h; decide
    · exact no_in (n := 3) (by decide) h (by decide)
  unfold f_MF_isSide
  have b1 : ¬ x = (1 : Int32) := a1
  have b2 : ¬ x = (2 : Int32) := a2
  simp [b1, b2, rz_0]
theorem MF_isTree_in {t : Nat} (h : t < 3) : f_MF_isTree (nI t) = some 1 := by
  rcases (show t = 0 ∨ t = 1 ∨ t = 2 by omega) with rfl | rfl | rfl <;> decide
theorem MF_isTree_out {x : Int32} (h : x < 0 ∨ nI 3 ≤ x) : f_MF_isTree x = some 0 := by
  have a0 : ¬ x = (0 : Int32) := no_in (n := 3) (t := 0) (by decide) h (by decide)
  unfold f_MF_isTree
  simp [a0, MF_isSide_out (Or.inr h), sb, rz_0]
section MO
variable {A I : Nat → Nat → Int32} {sw : Bool} {t : Nat} {X : Tre}
theorem Mo_isFile_in (ht : t < 3) (h : MTree A t X) {i : Nat} (hi : i < X.1) : f_Mo_isFile (Wd A I sw) 64 (nI t) (nI i) = some 1 := by
  have hn := h.2.1
  have s1 : nI X.1 - (1 : Int32) = nI (X.1 - 1) := sub1 (by omega)
  unfold f_Mo_isFile
  rw [kk_64, Mo_isTree_in ht, sb, if_neg (by decide), rr_64_2, sb, ga_67 ht, sb, h.1, s1, inN (a := 0) (lo := 0) (hi := X.1 - 1) rfl rfl (by omega) (by decide) (by omega), if_pos ⟨by omega, by omega⟩, sb, if_neg (by decide), sb, rz_1]
theorem Mo_isFile_out (ht : t < 3) (h : MTree A t X) {x : Int32} (hx : x < 0 ∨ nI X.1 ≤ x) : f_Mo_isFile (Wd A I sw) 64 (nI t) x = some 0 := by
  have hn := h.2.1
  unfold f_Mo_isFile
  rw [kk_64, Mo_isTree_in ht, sb, if_neg (by decide), rr_64_2, sb, ga_67 ht, sb, h.1, inL x 0 (nI X.1 - 1) (a := 0) rfl rfl, if_neg, sb, if_pos rfl, sb, rz_0]
  rintro ⟨h1, h2⟩
  rw [Int32.le_iff_toInt_le] at h1 h2
  rw [show (1 : Int32) = nI 1 from rfl, pk_sub_toInt (by omega) (by omega)] at h2
  have : (0 : Int32).toInt = 0 := rfl
  rcases hx with q | q
  · rw [Int32.lt_iff_toInt_lt] at q
    omega
  · rw [Int32.le_iff_toInt_le, nI_toInt (by omega)] at q
    omega
theorem Mo_isFile_no {x y : Int32} (hx : x < 0 ∨ nI 3 ≤ x) : f_Mo_isFile (Wd A I sw) 64 x y = some 0 := by
  unfold f_Mo_isFile
  rw [kk_64, Mo_isTree_out hx, sb, if_pos rfl, sb, rz_0]
theorem Mo_path (ht : t < 3) (h : MTree A t X) {i : Nat} (hi : i < X.1) : gA (Wd A I sw) false 65 (nI (12 * t + i)) = some (nI (X.2.1 i)) := by
  have hn := h.2.1
  rw [ga_65 (by omega), (h.2.2 i hi).1]
theorem Mo_cont (ht : t < 3) (h : MTree A t X) {i : Nat} (hi : i < X.1) : gA (Wd A I sw) false 66 (nI (12 * t + i)) = some (nI (X.2.2 i)) := by
  have hn := h.2.1
  rw [ga_66 (by omega), (h.2.2 i hi).2]
theorem Mo_contentAt (ht : t < 3) (h : MTree A t X) {i : Nat} (hi : i < X.1) : f_Mo_contentAt (Wd A I sw) 64 (nI t) (nI i) = some (nI (X.2.2 i)) := by
  unfold f_Mo_contentAt
  rw [kk_64, rr_64_1, sb, mix, Mo_cont ht h hi, sb]
theorem Mo_folderAt (ht : t < 3) (h : MTree A t X) (hv : VT X) {i : Nat} (hi : i < X.1) : f_Mo_folderAt (Wd A I sw) 64 (nI t) (nI i) = some (nI (X.2.1 i / 10)) := by
  have hp := hv.p hi
  unfold f_Mo_folderAt
  rw [kk_64, rr_64_0, sb, mix, Mo_path ht h hi, sb, div10 (by omega)]
theorem Mo_nameAt (ht : t < 3) (h : MTree A t X) (hv : VT X) {i : Nat} (hi : i < X.1) : f_Mo_nameAt (Wd A I sw) 64 (nI t) (nI i) = some (nI (X.2.1 i % 10)) := by
  have hp := hv.p hi
  unfold f_Mo_nameAt
  rw [kk_64, rr_64_0, sb, mix, Mo_path ht h hi, sb, rem10 (by omega)]
theorem Mo_placeOf (ht : t < 3) (h : MTree A t X) (hv : VT X) {p : Nat} (hp : p < 2 ^ 31) : f_Mo_placeOf (Wd A I sw) 64 (nI t) (nI p) = some (nI (pos X p)) := by
  have hn := h.2.1
  obtain ⟨q1, q2, q3⟩ := pos_spec hv p
  have key : ∀ (k i f : Nat), i + k = pos X p → k < f → f_Mo_placeOf_2 (Wd A I sw) 64 (nI t) (nI p) f (nI i) = some (nI (pos X p)) := by
    intro k
    induction k with
    | zero =>
      intro i f h1 h2
      obtain ⟨g, rfl⟩ : ∃ g, f = g + 1 := ⟨f - 1, by omega⟩
      have hi : i = pos X p := by omega
      rw [f_Mo_placeOf_2, rr_64_2, sb, ga_67 ht, sb, h.1, ifc (nI_leI (by omega) (by omega)), hi]
      by_cases c1 : X.1 ≤ pos X p
      · rw [if_pos c1]
      · have hpi := hv.p (i := pos X p) (by omega)
        rw [if_neg c1, rr_64_0, sb, mix, Mo_path ht h (by omega), sb, ifc (nI_leI hp (by omega)), if_pos (q3 _ (Nat.le_refl _) (by omega))]
    | succ k ih =>
      intro i f h1 h2
      obtain ⟨g, rfl⟩ : ∃ g, f = g + 1 := ⟨f - 1, by omega⟩
      have hpi := hv.p (i := i) (by omega)
      have hlt := q2 i (by omega)
      rw [f_Mo_placeOf_2, rr_64_2, sb, ga_67 ht, sb, h.1, ifc (nI_leI (by omega) (by omega)), if_neg (by omega), rr_64_0, sb, mix, Mo_path ht h (by omega), sb, ifc (nI_leI hp (by omega)), if_neg (by omega), add1]
      exact ih (i + 1) g (by omega) (by omega)
  unfold f_Mo_placeOf
  rw [kk_64]
  exact key (pos X p) 0 FU (by omega) (by rw [FU_eq]; omega)
/-- layAt: a file more at its place -/
theorem Mo_layAt (ht : t < 3) (h : MTree A t X) (hn : X.1 < 12) {k p c : Nat} (hk : k ≤ X.1) : ∃ A', f_Mo_layAt (Wd A I sw) 64 (nI t) (nI k) (nI p) (nI c) = some (Wd A' I sw) ∧ MFr t A A' ∧ A' 67 t = nI (X.1 + 1) ∧ ∀ i, i < X.1 + 1 → A' 65 (12 * t + i) = nI (if i < k then X.2.1 i else if i = k then p else X.2.1 (i - 1)) ∧ A' 66 (12 * t + i) = nI (if i < k then X.2.2 i else if i = k then c else X.2.2 (i - 1)) := by
  have key : ∀ (d j f : Nat) (B : Nat → Nat → Int32), k + d = j → j ≤ X.1 → d < f → MFr t A B → B 67 t = nI X.1 → (∀ i, i < j → B 65 (12 * t + i) = nI (X.2.1 i) ∧ B 66 (12 * t + i) = nI (X.2.2 i)) → (∀ i, j < i → i ≤ X.1 → B 65 (12 * t + i) = nI (X.2.1 (i - 1)) ∧ B 66 (12 * t + i) = nI (X.2.2 (i - 1))) → ∃ A', f_Mo_layAt_8 64 (nI t) (nI k) (nI p) (nI c) f (nI j) (Wd B I sw) = some (Wd A' I sw) ∧ MFr t A A' ∧ A' 67 t = nI (X.1 + 1) ∧ ∀ i, i < X.1 + 1 → A' 65 (12 * t + i) = nI (if i < k then X.2.1 i else if i = k then p else X.2.1 (i - 1)) ∧ A' 66 (12 * t + i) = nI (if i < k then X.2.2 i else if i = k then c else X.2.2 (i - 1)) := by
    intro d
    induction d with
    | zero =>
      intro j f B h1 h2 h3 hF h67 hlo hhi
      obtain ⟨g, rfl⟩ : ∃ g, f = g + 1 := ⟨f - 1, by omega⟩
      have hj : j = k := by omega
      subst hj
      refine ⟨up2 (up2 (up2 B 65 (12 * t + j) (nI p)) 66 (12 * t + j) (nI c)) 67 t (nI (X.1 + 1)), ?_, ⟨fun a a1 a2 a3 => ?_, fun i hi => ?_, fun i hi => ?_⟩, up2_s _ _ _ _, fun i hi => ?_⟩
      · rw [f_Mo_layAt_8, if_pos (Int32.le_refl _), mix, rr_64_0, sb, sa_65 (by omega), sb, rr_64_1, sb, sa_66 (by omega), sb, rr_64_2, sb, ga_67 ht, sb, up2_n (by omega), up2_n (by omega), h67, add1, sa_67 ht, sb]
      · rw [up2_fn a3, up2_fn a2, up2_fn a1]
        exact hF.1 a a1 a2 a3
      · have := hF.2.1 i hi
        simp only [up2_n (show 65 ≠ 67 by omega), up2_n (show 66 ≠ 67 by omega), up2_n (show 65 ≠ 66 by omega), up2_n (show 66 ≠ 65 by omega), up2_at, if_neg (show ¬ i = 12 * t + j by omega)]
        exact this
      · rw [up2_m hi, up2_n (by omega), up2_n (by omega)]
        exact hF.2.2 i hi
      · simp only [up2_n (show 65 ≠ 67 by omega), up2_n (show 66 ≠ 67 by omega), up2_n (show 65 ≠ 66 by omega), up2_n (show 66 ≠ 65 by omega), up2_at]
        by_cases c1 : i = j
        · subst c1
          simp
        · have c3 : ¬ 12 * t + i = 12 * t + j := by omega
          by_cases c2 : i < j
          · simp only [if_neg c3, if_pos c2]
            exact hlo i c2
          · simp only [if_neg c3, if_neg c2, if_neg c1]
            exact hhi i (by omega) (by omega)
    | succ d ih =>
      intro j f B h1 h2 h3 hF h67 hlo hhi
      obtain ⟨g, rfl⟩ : ∃ g, f = g + 1 := ⟨f - 1, by omega⟩
      have s1 : nI (12 * t + j) - (1 : Int32) = nI (12 * t + (j - 1)) := by
        rw [sub1 (by omega)]
        congr 1
        omega
      have s2 : nI j + (-1 : Int32) = nI (j - 1) := subm1 (by omega)
      have hl := hlo (j - 1) (by omega)
      rw [f_Mo_layAt_8, ifc (nI_leI (by omega) (by omega)), if_neg (by omega)]
      simp only [mix, s1, s2, rr_64_0, rr_64_1, sb, ga_65 (show 12 * t + (j - 1) < 36 by omega), sa_65 (show 12 * t + j < 36 by omega), ga_66 (show 12 * t + (j - 1) < 36 by omega), sa_66 (show 12 * t + j < 36 by omega), up2_n (show 66 ≠ 65 by omega), hl.1, hl.2]
      refine ih (j - 1) g _ (by omega) (by omega) (by omega) ⟨fun a a1 a2 a3 => ?_, fun i hi => ?_, fun i hi => ?_⟩ ?_ (fun i hi => ?_) (fun i hi hi2 => ?_)
      · rw [up2_fn a2, up2_fn a1]
        exact hF.1 a a1 a2 a3
      · have := hF.2.1 i hi
        simp only [up2_n (show 65 ≠ 66 by omega), up2_n (show 66 ≠ 65 by omega), up2_at, if_neg (show ¬ i = 12 * t + j by omega)]
        exact this
      · rw [up2_n (by omega), up2_n (by omega)]
        exact hF.2.2 i hi
      · rw [up2_n (by omega), up2_n (by omega)]
        exact h67
      · simp only [up2_n (show 65 ≠ 66 by omega), up2_n (show 66 ≠ 65 by omega), up2_at, if_neg (show ¬ 12 * t + i = 12 * t + j by omega)]
        exact hlo i (by omega)
      · simp only [up2_n (show 65 ≠ 66 by omega), up2_n (show 66 ≠ 65 by omega), up2_at]
        by_cases c1 : i = j
        · rw [if_pos (by omega), if_pos (by omega), c1]
          exact ⟨rfl, rfl⟩
        · rw [if_neg (by omega), if_neg (by omega)]
          exact hhi i (by omega) hi2
  unfold f_Mo_layAt
  rw [kk_64, rr_64_2, sb, ga_67 ht, sb, h.1]
  exact key (X.1 - k) X.1 FU A (by omega) (Nat.le_refl _) (by rw [FU_eq]; omega) ⟨fun _ _ _ _ => rfl, fun _ _ => ⟨rfl, rfl⟩, fun _ _ => rfl⟩ h.1 h.2.2 (fun i a b => by omega)
end MO
