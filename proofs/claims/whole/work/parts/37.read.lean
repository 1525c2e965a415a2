-- ===== shifting letters =====
theorem shift_25 {a : Nat} (ha : a ≤ 3) : ∀ (k b x f : Nat), b + k = a → k < f → x * 10 ^ k < 2 ^ 31 → f_Letters_shift_25 (nI a) f (nI x) (nI b) = some (nI (x * 10 ^ k)) := by
  intro k
  induction k with
  | zero =>
    intro b x f h1 h2 h3
    obtain ⟨g, rfl⟩ : ∃ g, f = g + 1 := ⟨f - 1, by omega⟩
    rw [f_Letters_shift_25, ifc (nI_leI (by omega) (by omega)), if_pos (by omega)]
    simp
  | succ k ih =>
    intro b x f h1 h2 h3
    obtain ⟨g, rfl⟩ : ∃ g, f = g + 1 := ⟨f - 1, by omega⟩
    have e : nI x * (10 : Int32) = nI (x * 10) := pk_mul x 10
    have e2 : x * 10 * 10 ^ k = x * 10 ^ (k + 1) := by rw [Nat.pow_succ, Nat.mul_assoc, Nat.mul_comm 10]
    rw [f_Letters_shift_25, ifc (nI_leI (by omega) (by omega)), if_neg (by omega), e, add1, ih (b + 1) (x * 10) g (by omega) (by omega) (by rw [e2]; exact h3), e2]
theorem shift_up {a b x : Nat} (ha : a ≤ 3) (hb : b ≤ a) (hx : x * 10 ^ (a - b) < 2 ^ 31) : f_Letters_shift (nI x) (nI a) (nI b) = some (nI (x * 10 ^ (a - b))) := by
  unfold f_Letters_shift
  rw [show FU = 3999 + 1 from rfl, f_Letters_shift_5, ifc (nI_leI (by omega) (by omega)), if_pos hb]
  exact shift_25 ha (a - b) b x FU (by omega) (by rw [FU_eq]; omega) hx
theorem shift_5 {a b : Nat} (ha : a ≤ 3) (hb : b ≤ 3) (hab : a ≤ b) : ∀ (k c x f : Nat), c + k = b → k < f → x < 2 ^ 31 → f_Letters_shift_5 (nI a) (nI b) f (nI x) (nI c) = some (nI (x / 10 ^ k)) := by
  intro k
  induction k with
  | zero =>
    intro c x f h1 h2 h3
    obtain ⟨g, rfl⟩ : ∃ g, f = g + 1 := ⟨f - 1, by omega⟩
    rw [f_Letters_shift_5, ifc (nI_leI (by omega) (by omega)), if_pos (by omega), show FU = 3999 + 1 from rfl, f_Letters_shift_25, ifc (nI_leI (by omega) (by omega)), if_pos hab]
    simp
  | succ k ih =>
    intro c x f h1 h2 h3
    obtain ⟨g, rfl⟩ : ∃ g, f = g + 1 := ⟨f - 1, by omega⟩
    rw [f_Letters_shift_5, ifc (nI_leI (by omega) (by omega)), if_neg (by omega), div10 h3, add1, ih (c + 1) (x / 10) g (by omega) (by omega) (by omega), Nat.div_div_eq_div_mul, Nat.pow_succ, Nat.mul_comm]
theorem shift_down {a b x : Nat} (hb : b ≤ 3) (hab : a ≤ b) (hx : x < 2 ^ 31) : f_Letters_shift (nI x) (nI a) (nI b) = some (nI (x / 10 ^ (b - a))) := by
  unfold f_Letters_shift
  exact shift_5 (by omega) hb hab (b - a) a x FU (by omega) (by rw [FU_eq]; omega) hx
-- ===== what a good pad tells =====
theorem flt_none {ps : Nat → Nat} {pn : Nat} (h : flt ps pn = none) : (97 ≤ sg ps pn (lets (sg ps pn)) ∧ sg ps pn (lets (sg ps pn)) ≤ 104) ∧ sg ps pn (lets (sg ps pn) + 1) = 61 ∧ ¬ lets (sg ps pn) + 2 + figs (sg ps pn) < pn := by
  unfold flt at h
  split at h
  · rename_i c1
    split at h
    · rename_i c2
      split at h
      · cases h
      · rename_i c3
        exact ⟨c1, c2, c3⟩
    · cases h
  · cases h
theorem conN_in {g : Nat → Nat} {s : Nat} : ∀ k, (∀ t, t < k → 48 ≤ g (s + t) ∧ g (s + t) ≤ 57) → 10 ^ k ≤ conN g s k ∧ conN g s k < 2 * 10 ^ k := by
  intro k
  induction k with
  | zero => intro _; simp [conN]
  | succ k ih =>
    intro h
    obtain ⟨h1, h2⟩ := ih (fun t ht => h t (by omega))
    have h3 := h k (by omega)
    rw [conN, Nat.pow_succ]
    omega
theorem vC_of {c k : Nat} (hk : k ≤ 6) (h1 : 10 ^ k ≤ c) (h2 : c < 2 * 10 ^ k) : vC c = true := by
  refine decide_eq_true ?_
  rcases (show k = 0 ∨ k = 1 ∨ k = 2 ∨ k = 3 ∨ k = 4 ∨ k = 5 ∨ k = 6 by omega) with rfl | rfl | rfl | rfl | rfl | rfl | rfl <;> omega
theorem contN_v (g : Nat → Nat) : vC (contN g) = true := by
  have h := rn_spec g 48 57 6 (lets g + 2)
  obtain ⟨h1, h2⟩ := conN_in (g := g) (s := lets g + 2) (figs g) h.2.1
  exact vC_of (figs_le g) h1 h2
theorem fld_v {g : Nat → Nat} {L : Nat} (hL : L ≤ 3) (h : ∀ t, t < L → 65 ≤ g t ∧ g t ≤ 68) : vF (fldN g L) = true := by
  refine decide_eq_true ?_
  rcases (show L = 0 ∨ L = 1 ∨ L = 2 ∨ L = 3 by omega) with rfl | rfl | rfl | rfl
  · simp [fldN]
  · have h0 := h 0 (by omega)
    simp [fldN]
    omega
  · have h0 := h 0 (by omega)
    have h1 := h 1 (by omega)
    simp [fldN]
    omega
  · have h0 := h 0 (by omega)
    have h1 := h 1 (by omega)
    have h2 := h 2 (by omega)
    simp [fldN]
    omega
theorem lets_in (g : Nat → Nat) : ∀ t, t < lets g → 65 ≤ g t ∧ g t ≤ 68 := by
  intro t ht
  have := (rn_spec g 65 68 3 0).2.1 t ht
  rwa [Nat.zero_add] at this
theorem pathN_v {ps : Nat → Nat} {pn : Nat} (h : flt ps pn = none) : vP (pathN (sg ps pn)) = true := by
  obtain ⟨h1, -, -⟩ := flt_none h
  have h2 := fld_v (lets_le (sg ps pn)) (lets_in (sg ps pn))
  unfold vP pathN
  have e1 : (10 * fldN (sg ps pn) (lets (sg ps pn)) + (sg ps pn (lets (sg ps pn)) - 97)) / 10 = fldN (sg ps pn) (lets (sg ps pn)) := by omega
  rw [e1, h2]
  simp
  omega
section RP
variable {A I : Nat → Nat → Int32} {sw : Bool} {pn : Nat} {ps : Nat → Nat}
theorem fldN_le {g : Nat → Nat} : ∀ k, (∀ t, t < k → 65 ≤ g t ∧ g t ≤ 68) → fldN g k ≤ 400 * k := by
  intro k
  induction k with
  | zero => intro _; simp [fldN]
  | succ k ih =>
    intro h
    have h1 := ih (fun t ht => h t (by omega))
    have h2 := h k (by omega)
    rw [fldN]
    split
    · omega
    · split <;> omega
theorem Pad_readPath_9 (h : PadC A I pn ps) (hv : VPd pn ps) (hf : flt ps pn = none) : ∀ (k j f : Nat), j + k = lets (sg ps pn) → k < f → f_Pad_readPath_9 (Wd A I sw) 1 (nI (lets (sg ps pn))) f (nI (fldN (sg ps pn) j)) (nI j) = some (nI (pathN (sg ps pn))) := by
  have hl := lets_le (sg ps pn)
  have hin := lets_in (sg ps pn)
  obtain ⟨h1, -, -⟩ := flt_none hf
  intro k
  induction k with
  | zero =>
    intro j f h2 h3
    obtain ⟨g, rfl⟩ : ∃ g, f = g + 1 := ⟨f - 1, by omega⟩
    have hj : j = lets (sg ps pn) := by omega
    subst hj
    have hb := fldN_le (lets (sg ps pn)) hin
    have e1 : (10 : Int32) * nI (fldN (sg ps pn) (lets (sg ps pn))) = nI (10 * fldN (sg ps pn) (lets (sg ps pn))) := pk_mul 10 _
    have e2 : nI (10 * fldN (sg ps pn) (lets (sg ps pn)) + sg ps pn (lets (sg ps pn))) - (97 : Int32) = nI (10 * fldN (sg ps pn) (lets (sg ps pn)) + sg ps pn (lets (sg ps pn)) - 97) := pk_sub (b := 97) (by omega)
    rw [f_Pad_readPath_9, if_pos (Int32.le_refl _), Pad_signAt h (by omega), sb, e1, nI_add, e2]
    unfold pathN
    congr 2
    omega
  | succ k ih =>
    intro j f h2 h3
    obtain ⟨g, rfl⟩ : ∃ g, f = g + 1 := ⟨f - 1, by omega⟩
    have hb := fldN_le j (fun t ht => hin t (by omega))
    have hj := hin j (by omega)
    have e1 : nI (sg ps pn j) - (65 : Int32) = nI (sg ps pn j - 65) := pk_sub (b := 65) (by omega)
    have e2 : f_Letters_shift (nI (sg ps pn j - 65 + 1)) (2 : Int32) (nI j) = some (nI ((sg ps pn j - 65 + 1) * 10 ^ (2 - j))) := by
      refine shift_up (a := 2) (by omega) (by omega) ?_
      rcases (show j = 0 ∨ j = 1 ∨ j = 2 by omega) with rfl | rfl | rfl <;> omega
    rw [f_Pad_readPath_9, ifc (nI_leI (by omega) (by omega)), if_neg (by omega), Pad_signAt h (by omega), sb, e1, add1, e2, sb, nI_add, add1]
    have e3 : fldN (sg ps pn) j + (sg ps pn j - 65 + 1) * 10 ^ (2 - j) = fldN (sg ps pn) (j + 1) := by
      rw [fldN]
      rcases (show j = 0 ∨ j = 1 ∨ j = 2 by omega) with rfl | rfl | rfl
      · simp; omega
      · simp; omega
      · simp; omega
    rw [e3]
    exact ih (j + 1) g (by omega) (by omega)
theorem Pad_readPath (h : PadC A I pn ps) (hv : VPd pn ps) (hf : flt ps pn = none) : f_Pad_readPath (Wd A I sw) 1 = some (nI (pathN (sg ps pn))) := by
  have hl := lets_le (sg ps pn)
  unfold f_Pad_readPath
  rw [kk_1, Pad_letters h hv, sb]
  exact Pad_readPath_9 h hv hf (lets (sg ps pn)) 0 FU (by omega) (by rw [FU_eq]; omega)
theorem figs_in (g : Nat → Nat) : ∀ t, t < figs g → 48 ≤ g (lets g + 2 + t) ∧ g (lets g + 2 + t) ≤ 57 := (rn_spec g 48 57 6 (lets g + 2)).2.1
theorem Pad_readContent_17 (h : PadC A I pn ps) (hv : VPd pn ps) : ∀ (k j f : Nat), j + k = figs (sg ps pn) → k < f → f_Pad_readContent_17 (Wd A I sw) 1 (nI (lets (sg ps pn) + 2)) (nI (figs (sg ps pn))) f (nI (conN (sg ps pn) (lets (sg ps pn) + 2) j)) (nI j) = some (nI (contN (sg ps pn))) := by
  have hl := lets_le (sg ps pn)
  have hg := figs_le (sg ps pn)
  have hin := figs_in (sg ps pn)
  intro k
  induction k with
  | zero =>
    intro j f h2 h3
    obtain ⟨g, rfl⟩ : ∃ g, f = g + 1 := ⟨f - 1, by omega⟩
    have hj : j = figs (sg ps pn) := by omega
    subst hj
    rw [f_Pad_readContent_17, if_pos (Int32.le_refl _)]
    rfl
  | succ k ih =>
    intro j f h2 h3
    obtain ⟨g, rfl⟩ : ∃ g, f = g + 1 := ⟨f - 1, by omega⟩
    have hj := hin j (by omega)
    have hc := conN_in (g := sg ps pn) (s := lets (sg ps pn) + 2) j (fun t ht => hin t (by omega))
    have hp : 10 ^ j ≤ 10 ^ 6 := Nat.pow_le_pow_right (by omega) (by omega)
    have e1 : (10 : Int32) * nI (conN (sg ps pn) (lets (sg ps pn) + 2) j) = nI (10 * conN (sg ps pn) (lets (sg ps pn) + 2) j) := pk_mul 10 _
    have e2 : nI (10 * conN (sg ps pn) (lets (sg ps pn) + 2) j + sg ps pn (lets (sg ps pn) + 2 + j)) - (48 : Int32) = nI (10 * conN (sg ps pn) (lets (sg ps pn) + 2) j + sg ps pn (lets (sg ps pn) + 2 + j) - 48) := pk_sub (b := 48) (by omega)
    rw [f_Pad_readContent_17, ifc (nI_leI (by omega) (by omega)), if_neg (by omega), nI_add, Pad_signAt h (by omega), sb, e1, nI_add, e2, add1]
    have e3 : 10 * conN (sg ps pn) (lets (sg ps pn) + 2) j + sg ps pn (lets (sg ps pn) + 2 + j) - 48 = conN (sg ps pn) (lets (sg ps pn) + 2) (j + 1) := by
      rw [conN]
      omega
    rw [e3]
    exact ih (j + 1) g (by omega) (by omega)
theorem Pad_readContent (h : PadC A I pn ps) (hv : VPd pn ps) : f_Pad_readContent (Wd A I sw) 1 = some (nI (contN (sg ps pn))) := by
  have hg := figs_le (sg ps pn)
  have e2 : nI (lets (sg ps pn)) + (2 : Int32) = nI (lets (sg ps pn) + 2) := nI_add _ 2
  unfold f_Pad_readContent
  rw [kk_1, Pad_letters h hv, sb, Pad_figures h hv, sb, e2]
  exact Pad_readContent_17 h hv (figs (sg ps pn)) 0 FU (by omega) (by rw [FU_eq]; omega)
end RP
