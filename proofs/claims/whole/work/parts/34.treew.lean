theorem up2_fn {α : Type} {f : Nat → Nat → α} {r k a : Nat} {x : α} (h : a ≠ r) : up2 f r k x a = f a := by
  funext b
  exact up2_n h
theorem up2_at {α : Type} {f : Nat → Nat → α} {r k b : Nat} {x : α} : up2 f r k x r b = if b = k then x else f r b := by
  simp [up2]
/-- only the tree at r was changed -/
def TF (r : Nat) (A I A' I' : Nat → Nat → Int32) : Prop := (∀ a, a ≠ r + 1 → a ≠ r + 2 → A' a = A a) ∧ ∀ a, a ≠ r → I' a = I a
theorem TF.rf {r : Nat} {A I : Nat → Nat → Int32} : TF r A I A I := ⟨fun _ _ _ => rfl, fun _ _ => rfl⟩
theorem TF.tr {r : Nat} {A I A1 I1 A2 I2 : Nat → Nat → Int32} (h : TF r A I A1 I1) (g : TF r A1 I1 A2 I2) : TF r A I A2 I2 := ⟨fun a h1 h2 => (g.1 a h1 h2).trans (h.1 a h1 h2), fun a h1 => (g.2 a h1).trans (h.2 a h1)⟩
theorem isT_apart {r q : Nat} (hr : isT r = true) (hq : isT q = true) (h : q ≠ r) : q + 1 ≠ r + 1 ∧ q + 1 ≠ r + 2 ∧ q + 2 ≠ r + 1 ∧ q + 2 ≠ r + 2 := by
  rcases isT_cases hr with rfl | rfl | rfl | rfl | rfl | rfl | rfl | rfl | rfl <;> rcases isT_cases hq with rfl | rfl | rfl | rfl | rfl | rfl | rfl | rfl | rfl <;> omega
theorem TreeIs.kept {A I A' I' : Nat → Nat → Int32} {q : Nat} {X : Tre} (h : TreeIs A I q X) (h0 : I' q = I q) (h1 : A' (q + 1) = A (q + 1)) (h2 : A' (q + 2) = A (q + 2)) : TreeIs A' I' q X := ⟨by rw [h0]; exact h.1, h.2.1, fun i hi => by rw [h1, h2]; exact h.2.2 i hi⟩
theorem TF.other {r q : Nat} {A I A' I' : Nat → Nat → Int32} {X : Tre} (f : TF r A I A' I') (hr : isT r = true) (hq : isT q = true) (hne : q ≠ r) (h : TreeIs A I q X) : TreeIs A' I' q X := by
  obtain ⟨a1, a2, a3, a4⟩ := isT_apart hr hq hne
  exact h.kept (f.2 q hne) (f.1 _ a1 a2) (f.1 _ a3 a4)
section CW
variable {A I : Nat → Nat → Int32} {sw : Bool} {r : Nat} {X : Tre}
/-- what openFor's loop holds: a gap at i -/
def Gap (A0 A : Nat → Nat → Int32) (r n : Nat) (X : Tre) (i : Nat) : Prop := (∀ j, j < i → A (r + 1) j = nI (X.2.1 j) ∧ A (r + 2) j = nI (X.2.2 j)) ∧ (∀ j, i < j → j ≤ n → A (r + 1) j = nI (X.2.1 (j - 1)) ∧ A (r + 2) j = nI (X.2.2 (j - 1))) ∧ ∀ a, a ≠ r + 1 → a ≠ r + 2 → A a = A0 a
theorem Tree_openFor_10 (hr : isT r = true) (hv : VT X) (hn : X.1 < 12) {p : Nat} (hp : p < 2 ^ 31) (A0 I : Nat → Nat → Int32) (hI : I r 2 = nI X.1) : ∀ (i f : Nat) (A : Nat → Nat → Int32), i ≤ X.1 → i < f → Gap A0 A r X.1 X i → (∀ j, i ≤ j → j < X.1 → p < X.2.1 j) → ∃ (k : Nat) (A' : Nat → Nat → Int32), f_Tree_openFor_10 r (nI p) f (nI i) (nI i) (Wd A I sw) = some (nI k, Wd A' (up2 I r 2 (nI (X.1 + 1))) sw) ∧ k ≤ X.1 ∧ Gap A0 A' r X.1 X k ∧ (∀ j, k ≤ j → j < X.1 → p < X.2.1 j) ∧ (k = 0 ∨ X.2.1 (k - 1) ≤ p) := by
  intro i
  induction i with
  | zero =>
    intro f A h1 h2 h3 h4
    obtain ⟨g, rfl⟩ : ∃ g, f = g + 1 := ⟨f - 1, by omega⟩
    refine ⟨0, A, ?_, by omega, h3, h4, Or.inl rfl⟩
    rw [f_Tree_openFor_10, if_pos (by decide), f_Tree_openFor_64, T_n hr, sb, hI, add1, T_sn hr, sb]
  | succ i ih =>
    intro f A h1 h2 h3 h4
    obtain ⟨g, rfl⟩ : ∃ g, f = g + 1 := ⟨f - 1, by omega⟩
    have hpi := hv.p (i := i) (by omega)
    have s1 : nI (i + 1) - (1 : Int32) = nI i := sub1 (a := i + 1) (by omega)
    have s2 : nI (i + 1) + (-1 : Int32) = nI i := subm1 (a := i + 1) (by omega)
    rw [f_Tree_openFor_10, ifc (le0 (by omega)), if_neg (by omega)]
    simp only [T_p hr, sb, s1, s2, T_gp hr (show i < 12 by omega), (h3.1 i (by omega)).1]
    rw [ifc (nI_leI (by omega) hp)]
    by_cases hc : X.2.1 i ≤ p
    · rw [if_pos hc]
      refine ⟨i + 1, A, ?_, h1, h3, h4, Or.inr (by simpa using hc)⟩
      rw [f_Tree_openFor_64, T_n hr, sb, hI, add1, T_sn hr, sb]
    · rw [if_neg hc]
      simp only [sb, T_sp hr (show i + 1 < 12 by omega), T_c hr, T_gc hr (show i < 12 by omega), T_sc hr (show i + 1 < 12 by omega)]
      have e2 : up2 A (r + 1) (i + 1) (nI (X.2.1 i)) (r + 2) i = nI (X.2.2 i) := by
        rw [up2_n (by omega)]
        exact (h3.1 i (by omega)).2
      rw [e2]
      refine ih g _ (by omega) (by omega) ⟨fun j hj => ?_, fun j hj1 hj2 => ?_, fun a ha1 ha2 => ?_⟩ (fun j hj1 hj2 => ?_)
      · rw [up2_n (by omega), up2_m (by omega), up2_m (by omega), up2_n (by omega)]
        exact h3.1 j (by omega)
      · rw [up2_n (by omega), up2_at, up2_at, up2_n (by omega)]
        by_cases hji : j = i + 1
        · rw [if_pos hji, if_pos hji, hji]
          exact ⟨rfl, rfl⟩
        · rw [if_neg hji, if_neg hji]
          exact h3.2.1 j (by omega) hj2
      · rw [up2_fn ha2, up2_fn ha1]
        exact h3.2.2 a ha1 ha2
      · by_cases hji : j = i
        · rw [hji]; omega
        · exact h4 j (by omega) hj2
theorem Tree_lay_29 (hr : isT r = true) {p c k : Nat} (hk : k < 12) : f_Tree_lay_29 (Wd A I sw) r (nI p) (nI c) (nI k) = some (1, Wd (up2 (up2 A (r + 1) k (nI p)) (r + 2) k (nI c)) I sw) := by
  rw [f_Tree_lay_29, T_p hr, sb, T_sp hr hk, sb, T_c hr, sb, T_sc hr hk, sb, rz_1, sb]
/-- lay: the file is there behind it, or there was no room -/
theorem Tree_lay (hr : isT r = true) (h : TreeIs A I r X) (hv : VT X) {p c : Nat} (hp : vP p = true) (hroom : isThere X p = true ∨ X.1 < 12) : ∃ A' I', f_Tree_lay (Wd A I sw) r (nI p) (nI c) = some (1, Wd A' I' sw) ∧ TreeIs A' I' r (layT X p c) ∧ TF r A I A' I' := by
  have hb : X.1 ≤ 12 := h.2.1
  have hpl := vP_lt hp
  obtain ⟨q1, q2, q3⟩ := pos_spec hv p
  unfold f_Tree_lay
  rw [T_ck hr, Tree_find hr h hv (by omega), sb]
  by_cases ht : isThere X p = true
  · rw [if_pos ht]
    have h1 := of_decide_eq_true ht
    rw [if_neg (by exact nI_ne6 (by omega))]
    refine ⟨_, _, Tree_lay_29 hr (k := pos X p) (by omega), ?_, ?_⟩
    · unfold layT
      rw [if_pos ht]
      refine ⟨h.1, hb, fun i hi => ?_⟩
      rw [up2_n (by omega), up2_at, up2_at, up2_n (by omega)]
      have h2 := h.2.2 i hi
      by_cases hi2 : i = pos X p
      · rw [if_pos hi2, if_pos hi2]
        exact ⟨by rw [hi2, h1.2], by simp [hi2]⟩
      · rw [if_neg hi2, if_neg hi2]
        exact ⟨h2.1, by simp [hi2]; exact h2.2⟩
    · exact ⟨fun a h2 h3 => by rw [up2_fn h3, up2_fn h2], fun a _ => rfl⟩
  · have hn : X.1 < 12 := by rcases hroom with q | q; exact absurd q ht; exact q
    rw [if_neg ht]
    simp only [o2i]
    rw [if_pos trivial, T_n hr, sb, h.1, ifc (lt12 (by omega)), if_pos hn]
    unfold f_Tree_openFor
    rw [T_ck hr, T_n hr, sb, sb, h.1]
    obtain ⟨k, A1, e1, k1, k2, k3, k4⟩ := Tree_openFor_10 (sw := sw) hr hv hn (p := p) (by omega) A I h.1 X.1 FU A (Nat.le_refl _) (by rw [FU_eq]; omega) ⟨fun j hj => h.2.2 j hj, fun j a b => by omega, fun _ _ _ => rfl⟩ (fun j a b => by omega)
    rw [e1, sb]
    dsimp only
    have hk : k = pos X p := by
      refine (cnt_split _ k1 (fun j hj => ?_) (fun j a b => ?_)).symm
      · have h5 : X.2.1 (k - 1) ≤ p := by rcases k4 with q | q; omega; exact q
        have h6 : X.2.1 j ≤ X.2.1 (k - 1) := by
          by_cases hjk : j = k - 1
          · rw [hjk]; exact Nat.le_refl _
          · exact Nat.le_of_lt (hv.2.2 j (k - 1) (by omega) (by omega))
        have h7 : X.2.1 j ≠ p := fun e => by
          have h8 := there_iff hv (i := j) (by omega) e
          exact ht (decide_eq_true ⟨by omega, by rw [← h8]; exact e⟩)
        simp
        omega
      · have := k3 j a b
        simp
        omega
    refine ⟨_, _, Tree_lay_29 hr (k := k) (by omega), ?_, ?_⟩
    · unfold layT
      rw [if_neg ht]
      refine ⟨by rw [up2_s], by show X.1 + 1 ≤ 12; omega, fun i hi => ?_⟩
      have hi : i < X.1 + 1 := hi
      rw [up2_n (by omega), up2_at, up2_at, up2_n (by omega)]
      by_cases hi2 : i = k
      · rw [if_pos hi2, if_pos hi2]
        simp [← hk, hi2]
      · rw [if_neg hi2, if_neg hi2]
        by_cases hi3 : i < k
        · have h9 := k2.1 i hi3
          simp [← hk, hi3]
          exact h9
        · have h9 := k2.2.1 i (by omega) (by omega)
          simp [← hk, hi3, hi2]
          exact h9
    · exact ⟨fun a h2 h3 => by rw [up2_fn h3, up2_fn h2]; exact k2.2.2 a h2 h3, fun a h2 => up2_fn h2⟩
theorem Tree_lay_full (hr : isT r = true) (h : TreeIs A I r X) (hv : VT X) {p c : Nat} (hp : vP p = true) (hroom : ¬ (isThere X p = true ∨ X.1 < 12)) : f_Tree_lay (Wd A I sw) r (nI p) (nI c) = some (0, Wd A I sw) := by
  have hb : X.1 ≤ 12 := h.2.1
  have hpl := vP_lt hp
  unfold f_Tree_lay
  rw [T_ck hr, Tree_find hr h hv (by omega), sb, if_neg (fun q => hroom (Or.inl q))]
  simp only [o2i]
  rw [if_pos trivial, T_n hr, sb, h.1, ifc (lt12 (by omega)), if_neg (fun q => hroom (Or.inr q)), rz_0, sb]
/-- remove -/
theorem Tree_remove_21 (hr : isT r = true) {n i0 : Nat} (hn : n ≤ 11) (I : Nat → Nat → Int32) (hI : I r 2 = nI n) (A0 : Nat → Nat → Int32) : ∀ (k i f : Nat) (A : Nat → Nat → Int32), i + k = n → k < f → i0 ≤ i → (∀ j, j < i0 ∨ i ≤ j → A (r + 1) j = A0 (r + 1) j ∧ A (r + 2) j = A0 (r + 2) j) → (∀ j, i0 ≤ j → j < i → A (r + 1) j = A0 (r + 1) (j + 1) ∧ A (r + 2) j = A0 (r + 2) (j + 1)) → (∀ a, a ≠ r + 1 → a ≠ r + 2 → A a = A0 a) → ∃ A', f_Tree_remove_21 r f (nI i) (Wd A I sw) = some (Wd A' I sw) ∧ (∀ j, j < i0 → A' (r + 1) j = A0 (r + 1) j ∧ A' (r + 2) j = A0 (r + 2) j) ∧ (∀ j, i0 ≤ j → j < n → A' (r + 1) j = A0 (r + 1) (j + 1) ∧ A' (r + 2) j = A0 (r + 2) (j + 1)) ∧ (∀ a, a ≠ r + 1 → a ≠ r + 2 → A' a = A0 a) := by
  intro k
  induction k with
  | zero =>
    intro i f A h1 h2 h3 h4 h5 h6
    obtain ⟨g, rfl⟩ : ∃ g, f = g + 1 := ⟨f - 1, by omega⟩
    refine ⟨A, ?_, fun j hj => h4 j (Or.inl hj), fun j a b => h5 j a (by omega), h6⟩
    rw [f_Tree_remove_21, T_n hr, sb, hI, ifc (nI_leI (by omega) (by omega)), if_pos (by omega)]
  | succ k ih =>
    intro i f A h1 h2 h3 h4 h5 h6
    obtain ⟨g, rfl⟩ : ∃ g, f = g + 1 := ⟨f - 1, by omega⟩
    rw [f_Tree_remove_21, T_n hr, sb, hI, ifc (nI_leI (by omega) (by omega)), if_neg (by omega)]
    simp only [T_p hr, sb, add1, T_gp hr (show i + 1 < 12 by omega), T_sp hr (show i < 12 by omega), T_c hr, T_gc hr (show i + 1 < 12 by omega), T_sc hr (show i < 12 by omega)]
    refine ih (i + 1) g _ (by omega) (by omega) (by omega) (fun j hj => ?_) (fun j a b => ?_) (fun a h7 h8 => ?_)
    · simp only [up2_at, up2_n (show r + 1 ≠ r + 2 by omega), up2_n (show r + 2 ≠ r + 1 by omega)]
      rw [if_neg (by omega), if_neg (by omega)]
      exact h4 j (by omega)
    · simp only [up2_at, up2_n (show r + 1 ≠ r + 2 by omega), up2_n (show r + 2 ≠ r + 1 by omega)]
      by_cases hji : j = i
      · rw [if_pos hji, if_pos hji, hji]
        exact h4 (i + 1) (Or.inr (by omega))
      · rw [if_neg hji, if_neg hji]
        exact h5 j a (by omega)
    · rw [up2_fn h8, up2_fn h7]
      exact h6 a h7 h8
theorem Tree_remove (hr : isT r = true) (h : TreeIs A I r X) {i : Nat} (hi : i < X.1) : ∃ A' I', f_Tree_remove (Wd A I sw) r (nI i) = some (Wd A' I' sw) ∧ TreeIs A' I' r (dropT X i) ∧ TF r A I A' I' := by
  have hb : X.1 ≤ 12 := h.2.1
  unfold f_Tree_remove
  have s1 : nI X.1 - (1 : Int32) = nI (X.1 - 1) := sub1 (by omega)
  rw [T_ck hr, Tree_has_in hr h hi, sb, if_neg (by decide), T_n hr, sb, h.1, s1, T_sn hr, sb]
  obtain ⟨A1, e1, e2, e3, e4⟩ := Tree_remove_21 (sw := sw) hr (n := X.1 - 1) (i0 := i) (by omega) (up2 I r 2 (nI (X.1 - 1))) (up2_s _ _ _ _) A (X.1 - 1 - i) i FU A (by omega) (by rw [FU_eq]; omega) (Nat.le_refl _) (fun _ _ => ⟨rfl, rfl⟩) (fun j a b => by omega) (fun _ _ _ => rfl)
  refine ⟨A1, _, e1, ⟨up2_s _ _ _ _, by show X.1 - 1 ≤ 12; omega, fun j hj => ?_⟩, ⟨e4, fun a ha => up2_fn ha⟩⟩
  have hj : j < X.1 - 1 := hj
  show A1 (r + 1) j = nI (if j < i then X.2.1 j else X.2.1 (j + 1)) ∧ A1 (r + 2) j = nI (if j < i then X.2.2 j else X.2.2 (j + 1))
  by_cases hji : j < i
  · rw [if_pos hji, if_pos hji, (e2 j hji).1, (e2 j hji).2]
    exact h.2.2 j (by omega)
  · rw [if_neg hji, if_neg hji, (e3 j (by omega) hj).1, (e3 j (by omega) hj).2]
    exact h.2.2 (j + 1) (by omega)
theorem Tree_clear (hr : isT r = true) : f_Tree_clear (Wd A I sw) r = some (Wd A (up2 I r 2 (nI 0)) sw) := by
  unfold f_Tree_clear
  rw [T_ck hr, lit0N, T_sn hr, sb]
/-- take: a copy of another tree -/
theorem Tree_take_2 {q : Nat} (hr : isT r = true) (hq : isT q = true) (hne : q ≠ r) (I : Nat → Nat → Int32) (hI : I q 2 = nI X.1) (hn : X.1 ≤ 12) (A0 : Nat → Nat → Int32) (hX : ∀ j, j < X.1 → A0 (q + 1) j = nI (X.2.1 j) ∧ A0 (q + 2) j = nI (X.2.2 j)) : ∀ (k i f : Nat) (A : Nat → Nat → Int32), i + k = X.1 → k < f → (∀ j, j < i → A (r + 1) j = nI (X.2.1 j) ∧ A (r + 2) j = nI (X.2.2 j)) → (∀ a, a ≠ r + 1 → a ≠ r + 2 → A a = A0 a) → ∃ A', f_Tree_take_2 r q f (nI i) (Wd A I sw) = some (Wd A' (up2 I r 2 (nI X.1)) sw) ∧ (∀ j, j < X.1 → A' (r + 1) j = nI (X.2.1 j) ∧ A' (r + 2) j = nI (X.2.2 j)) ∧ (∀ a, a ≠ r + 1 → a ≠ r + 2 → A' a = A0 a) := by
  obtain ⟨a1, a2, a3, a4⟩ := isT_apart hr hq hne
  intro k
  induction k with
  | zero =>
    intro i f A h1 h2 h4 h6
    obtain ⟨g, rfl⟩ : ∃ g, f = g + 1 := ⟨f - 1, by omega⟩
    refine ⟨A, ?_, fun j hj => h4 j (by omega), h6⟩
    rw [f_Tree_take_2, T_n hq, sb, hI, ifc (nI_leI (by omega) (by omega)), if_pos (by omega), sb, T_sn hr, sb]
  | succ k ih =>
    intro i f A h1 h2 h4 h6
    obtain ⟨g, rfl⟩ : ∃ g, f = g + 1 := ⟨f - 1, by omega⟩
    rw [f_Tree_take_2, T_n hq, sb, hI, ifc (nI_leI (by omega) (by omega)), if_neg (by omega)]
    simp only [T_p hr, T_p hq, sb, add1, T_gp hq (show i < 12 by omega), T_sp hr (show i < 12 by omega), T_c hr, T_c hq, T_gc hq (show i < 12 by omega), T_sc hr (show i < 12 by omega)]
    refine ih (i + 1) g _ (by omega) (by omega) (fun j hj => ?_) (fun a h7 h8 => ?_)
    · simp only [up2_at, up2_n (show r + 1 ≠ r + 2 by omega), up2_n (show r + 2 ≠ r + 1 by omega), up2_n a3, up2_n a1]
      by_cases hji : j = i
      · rw [if_pos hji, if_pos hji, h6 _ a1 a2, h6 _ a3 a4, hji]
        exact hX i (by omega)
      · rw [if_neg hji, if_neg hji]
        exact h4 j (by omega)
    · rw [up2_fn h8, up2_fn h7]
      exact h6 a h7 h8
theorem Tree_take {q : Nat} (hr : isT r = true) (hq : isT q = true) (hne : q ≠ r) (h : TreeIs A I q X) : ∃ A' I', f_Tree_take (Wd A I sw) r q = some (Wd A' I' sw) ∧ TreeIs A' I' r X ∧ TF r A I A' I' := by
  unfold f_Tree_take
  rw [T_ck hr]
  obtain ⟨A1, e1, e2, e3⟩ := Tree_take_2 (sw := sw) hr hq hne I h.1 h.2.1 A h.2.2 X.1 0 FU A (by omega) (by have := h.2.1; rw [FU_eq]; omega) (fun j hj => by omega) (fun _ _ _ => rfl)
  exact ⟨A1, _, e1, ⟨up2_s _ _ _ _, h.2.1, e2⟩, ⟨e3, fun a ha => up2_fn ha⟩⟩
end CW
