section MP
variable {A I : Nat → Nat → Int32} {sw : Bool} {t : Nat} {X : Tre}
theorem Mo_drop (ht : t < 3) (h : MTree A t X) {i : Nat} (hi : i < X.1) : ∃ A', f_Mo_drop (Wd A I sw) 64 (nI t) (nI i) = some (nI (X.1 - 1), Wd A' I sw) ∧ MFr t A A' ∧ MTree A' t (dropT X i) := by
  have hn := h.2.1
  have key : ∀ (d j f : Nat) (B : Nat → Nat → Int32), j + d = X.1 - 1 → d < f → i ≤ j → MFr t A B → B 67 t = nI (X.1 - 1) → (∀ u, u < i ∨ j ≤ u → u < X.1 → B 65 (12 * t + u) = nI (X.2.1 u) ∧ B 66 (12 * t + u) = nI (X.2.2 u)) → (∀ u, i ≤ u → u < j → B 65 (12 * t + u) = nI (X.2.1 (u + 1)) ∧ B 66 (12 * t + u) = nI (X.2.2 (u + 1))) → ∃ A', f_Mo_drop_23 64 (nI t) f (nI j) (Wd B I sw) = some (nI (X.1 - 1), Wd A' I sw) ∧ MFr t A A' ∧ MTree A' t (dropT X i) := by
    intro d
    induction d with
    | zero =>
      intro j f B h1 h2 h3 hF h67 hlo hhi
      obtain ⟨g, rfl⟩ : ∃ g, f = g + 1 := ⟨f - 1, by omega⟩
      refine ⟨B, ?_, hF, h67, by show X.1 - 1 ≤ 12; omega, fun u hu => ?_⟩
      · rw [f_Mo_drop_23]
        simp only [rr_64_2, sb, ga_67 ht, h67]
        rw [ifc (nI_leI (by omega) (by omega)), if_pos (by omega)]
      · have hu : u < X.1 - 1 := hu
        show B 65 (12 * t + u) = nI (if u < i then X.2.1 u else X.2.1 (u + 1)) ∧ B 66 (12 * t + u) = nI (if u < i then X.2.2 u else X.2.2 (u + 1))
        by_cases c : u < i
        · simp only [if_pos c]
          exact hlo u (Or.inl c) (by omega)
        · simp only [if_neg c]
          exact hhi u (by omega) (by omega)
    | succ d ih =>
      intro j f B h1 h2 h3 hF h67 hlo hhi
      obtain ⟨g, rfl⟩ : ∃ g, f = g + 1 := ⟨f - 1, by omega⟩
      have s1 : nI (12 * t + j) + (1 : Int32) = nI (12 * t + (j + 1)) := by rw [add1]; congr 1
      have hl := hlo (j + 1) (Or.inr (by omega)) (by omega)
      rw [f_Mo_drop_23]
      simp only [rr_64_2, sb, ga_67 ht, h67]
      rw [ifc (nI_leI (by omega) (by omega)), if_neg (by omega)]
      simp only [mix, s1, add1, rr_64_0, rr_64_1, sb, ga_65 (show 12 * t + (j + 1) < 36 by omega), sa_65 (show 12 * t + j < 36 by omega), ga_66 (show 12 * t + (j + 1) < 36 by omega), sa_66 (show 12 * t + j < 36 by omega), up2_n (show 66 ≠ 65 by omega), hl.1, hl.2]
      refine ih (j + 1) g _ (by omega) (by omega) (by omega) ⟨fun a a1 a2 a3 => ?_, fun u hu => ?_, fun u hu => ?_⟩ ?_ (fun u hu hu2 => ?_) (fun u hu hu2 => ?_)
      · rw [up2_fn a2, up2_fn a1]
        exact hF.1 a a1 a2 a3
      · have := hF.2.1 u hu
        simp only [up2_n (show 65 ≠ 66 by omega), up2_n (show 66 ≠ 65 by omega), up2_at, if_neg (show ¬ u = 12 * t + j by omega)]
        exact this
      · rw [up2_n (by omega), up2_n (by omega)]
        exact hF.2.2 u hu
      · rw [up2_n (by omega), up2_n (by omega)]
        exact h67
      · simp only [up2_n (show 65 ≠ 66 by omega), up2_n (show 66 ≠ 65 by omega), up2_at, if_neg (show ¬ 12 * t + u = 12 * t + j by omega)]
        exact hlo u (by omega) hu2
      · simp only [up2_n (show 65 ≠ 66 by omega), up2_n (show 66 ≠ 65 by omega), up2_at]
        by_cases c1 : u = j
        · subst c1
          simp
        · simp only [if_neg (show ¬ 12 * t + u = 12 * t + j by omega)]
          exact hhi u hu (by omega)
  have s1 : nI X.1 - (1 : Int32) = nI (X.1 - 1) := sub1 (by omega)
  unfold f_Mo_drop
  rw [kk_64, Mo_isFile_in ht h hi, sb, if_neg (by decide), rr_64_2, sb, ga_67 ht, sb, h.1, s1, sa_67 ht, sb]
  refine key (X.1 - 1 - i) i FU _ (by omega) (by rw [FU_eq]; omega) (Nat.le_refl _) ⟨fun a a1 a2 a3 => up2_fn a3, fun u hu => by rw [up2_n (by omega), up2_n (by omega)]; exact ⟨rfl, rfl⟩, fun u hu => up2_m hu⟩ (up2_s _ _ _ _) (fun u _ hu2 => by rw [up2_n (by omega), up2_n (by omega)]; exact h.2.2 u hu2) (fun u a b => by omega)
theorem Mo_copy (ht : t < 3) (h1t : 1 ≤ t) (h : MTree A 0 X) : ∃ A', f_Mo_copy (Wd A I sw) 64 (nI t) = some (nI X.1, Wd A' I sw) ∧ MFr t A A' ∧ MTree A' t X := by
  have hn := h.2.1
  have key : ∀ (d j f : Nat) (B : Nat → Nat → Int32), j + d = X.1 → d < f → MFr t A B → B 67 t = nI X.1 → (∀ u, u < j → B 65 (12 * t + u) = nI (X.2.1 u) ∧ B 66 (12 * t + u) = nI (X.2.2 u)) → ∃ A', f_Mo_copy_23 64 (nI t) f (nI j) (Wd B I sw) = some (nI X.1, Wd A' I sw) ∧ MFr t A A' ∧ MTree A' t X := by
    intro d
    induction d with
    | zero =>
      intro j f B h1 h2 hF h67 hlo
      obtain ⟨g, rfl⟩ : ∃ g, f = g + 1 := ⟨f - 1, by omega⟩
      refine ⟨B, ?_, hF, h67, hn, fun u hu => hlo u (by omega)⟩
      have h0 := (hF.other (u := 0) (by omega) h).1
      rw [f_Mo_copy_23, lit0N]
      simp only [rr_64_2, sb, ga_67 (show 0 < 3 by omega), h0]
      rw [ifc (nI_leI (by omega) (by omega)), if_pos (by omega)]
    | succ d ih =>
      intro j f B h1 h2 hF h67 hlo
      obtain ⟨g, rfl⟩ : ∃ g, f = g + 1 := ⟨f - 1, by omega⟩
      have h0 := hF.other (u := 0) (by omega) h
      have hl := h0.2.2 j (by omega)
      rw [Nat.mul_zero, Nat.zero_add] at hl
      rw [f_Mo_copy_23, lit0N]
      simp only [rr_64_2, sb, ga_67 (show 0 < 3 by omega), h0.1]
      rw [ifc (nI_leI (by omega) (by omega)), if_neg (by omega)]
      simp only [mix, add1, rr_64_0, rr_64_1, sb, ga_65 (show j < 36 by omega), sa_65 (show 12 * t + j < 36 by omega), ga_66 (show j < 36 by omega), sa_66 (show 12 * t + j < 36 by omega), up2_n (show 66 ≠ 65 by omega), hl.1, hl.2]
      refine ih (j + 1) g _ (by omega) (by omega) ⟨fun a a1 a2 a3 => ?_, fun u hu => ?_, fun u hu => ?_⟩ ?_ (fun u hu => ?_)
      · rw [up2_fn a2, up2_fn a1]
        exact hF.1 a a1 a2 a3
      · have := hF.2.1 u hu
        simp only [up2_n (show 65 ≠ 66 by omega), up2_n (show 66 ≠ 65 by omega), up2_at, if_neg (show ¬ u = 12 * t + j by omega)]
        exact this
      · rw [up2_n (by omega), up2_n (by omega)]
        exact hF.2.2 u hu
      · rw [up2_n (by omega), up2_n (by omega)]
        exact h67
      · simp only [up2_n (show 65 ≠ 66 by omega), up2_n (show 66 ≠ 65 by omega), up2_at]
        by_cases c1 : u = j
        · subst c1
          simp
        · simp only [if_neg (show ¬ 12 * t + u = 12 * t + j by omega)]
          exact hlo u (by omega)
  have h0 : gA (Wd A I sw) false 67 (0 : Int32) = some (nI X.1) := by rw [lit0N, ga_67 (by omega), h.1]
  unfold f_Mo_copy
  rw [kk_64, Mo_isSide_in h1t ht, sb, if_neg (by decide)]
  simp only [rr_64_2, sb, h0, sa_67 ht]
  refine key X.1 0 FU _ (by omega) (by rw [FU_eq]; omega) ⟨fun a a1 a2 a3 => up2_fn a3, fun u hu => by rw [up2_n (by omega), up2_n (by omega)]; exact ⟨rfl, rfl⟩, fun u hu => up2_m hu⟩ (up2_s _ _ _ _) (fun u hu => by omega)
/-- a row goes into the kept ones, or comes out of them -/
theorem passRow_w {q m n K : Nat} (hq : isAr false m q = true) (hm : m < 2 ^ 31) (hnm : n ≤ m) (hK : K + n ≤ 152) (hq79 : q ≠ 79) : ∀ (d j f : Nat) (I : Nat → Nat → Int32), j + d = n → d < f → I 64 26 = 1 → I 64 25 = nI (K + j) → f_Mo_passRow_2 64 q (nI n) f (nI j) (Wd (fun a b => if a = 79 ∧ K ≤ b ∧ b < K + j then A q (b - K) else A a b) I sw) = some (Wd (fun a b => if a = 79 ∧ K ≤ b ∧ b < K + n then A q (b - K) else A a b) (up2 I 64 25 (nI (K + n))) sw) := by
  intro d
  induction d with
  | zero =>
    intro j f I h1 h2 h26 h25
    obtain ⟨g, rfl⟩ : ∃ g, f = g + 1 := ⟨f - 1, by omega⟩
    have hj : j = n := by omega
    subst hj
    have e : up2 I 64 25 (nI (K + j)) = I := by
      funext a b
      unfold up2
      split
      · rename_i hc; rw [hc.1, hc.2, h25]
      · rfl
    rw [f_Mo_passRow_2, if_pos (Int32.le_refl _), e]
  | succ d ih =>
    intro j f I h1 h2 h26 h25
    obtain ⟨g, rfl⟩ : ∃ g, f = g + 1 := ⟨f - 1, by omega⟩
    have hjm : j < m := by omega
    rw [f_Mo_passRow_2, ifc (nI_leI (by omega) (by omega)), if_neg (by omega)]
    simp only [gg_64_26, sb, h26, gA_W hq hjm hm, sA_W hq hjm hm, rr_64_23, gg_64_25, h25, sa_79 (show K + j < 152 by omega), ss_64_25, add1]
    rw [if_neg (by decide)]
    simp only [sb, gA_W hq hjm hm, sA_W hq hjm hm, rr_64_23, gg_64_25, h25, sa_79 (show K + j < 152 by omega), ss_64_25, add1]
    have e : up2 (up2 (fun a b => if a = 79 ∧ K ≤ b ∧ b < K + j then A q (b - K) else A a b) q j (if q = 79 ∧ K ≤ j ∧ j < K + j then A q (j - K) else A q j)) 79 (K + j) (up2 (fun a b => if a = 79 ∧ K ≤ b ∧ b < K + j then A q (b - K) else A a b) q j (if q = 79 ∧ K ≤ j ∧ j < K + j then A q (j - K) else A q j) q j) = (fun a b => if a = 79 ∧ K ≤ b ∧ b < K + (j + 1) then A q (b - K) else A a b) := by
      funext a b
      grind [up2]
    rw [e, ih (j + 1) g _ (by omega) (by omega) (by rw [up2_m (by omega)]; exact h26) (by rw [up2_s]; congr 1)]
    congr 2
    funext a b
    grind [up2]
end MP
