-- ===== long comparisons of ints =====
theorem wide_lt (a b : Int32) : a.toInt64 < b.toInt64 ↔ a < b := by
  rw [Int64.lt_iff_toInt_lt, Int32.lt_iff_toInt_lt, Int32.toInt_toInt64, Int32.toInt_toInt64]
theorem inL (x lo hi : Int32) {a b : Int64} (ha : a = lo.toInt64) (hb : b = hi.toInt64) : f_Mo_in x.toInt64 a b = some (if lo ≤ x ∧ x ≤ hi then 1 else 0) := by
  subst ha hb
  unfold f_Mo_in
  by_cases h1 : x < lo
  · have g : ¬ lo ≤ x := fun q => by rw [Int32.le_iff_toInt_le] at q; rw [Int32.lt_iff_toInt_lt] at h1; omega
    rw [if_pos ((lg_cmp_lt _ _).mpr ((wide_lt _ _).mpr h1)), rz_0, if_neg (fun q => g q.1)]
  · have g : lo ≤ x := by rw [Int32.lt_iff_toInt_lt] at h1; rw [Int32.le_iff_toInt_le]; omega
    rw [if_neg (fun q => h1 ((wide_lt _ _).mp ((lg_cmp_lt _ _).mp q)))]
    by_cases h2 : hi < x
    · have g2 : ¬ x ≤ hi := fun q => by rw [Int32.le_iff_toInt_le] at q; rw [Int32.lt_iff_toInt_lt] at h2; omega
      rw [if_pos ((lg_cmp_gt _ _).mpr ((wide_lt _ _).mpr h2)), rz_0, if_neg (fun q => g2 q.2)]
    · have g2 : x ≤ hi := by rw [Int32.lt_iff_toInt_lt] at h2; rw [Int32.le_iff_toInt_le]; omega
      rw [if_neg (fun q => h2 ((wide_lt _ _).mp ((lg_cmp_gt _ _).mp q))), rz_1, if_pos ⟨g, g2⟩]
theorem inN {x lo hi : Nat} {a b : Int64} (ha : a = (nI lo).toInt64) (hb : b = (nI hi).toInt64) (hx : x < 2 ^ 31) (hl : lo < 2 ^ 31) (hh : hi < 2 ^ 31) : f_Mo_in (nI x).toInt64 a b = some (if lo ≤ x ∧ x ≤ hi then 1 else 0) := by
  rw [inL (nI x) (nI lo) (nI hi) ha hb, ifc (and_congr (nI_leI hl hx) (nI_leI hx hh))]
-- ===== the pad, and what it tells =====
def sg (ps : Nat → Nat) (pn k : Nat) : Nat := if k < pn then ps k else 0
def rn (g : Nat → Nat) (lo hi : Nat) : Nat → Nat → Nat
  | _, 0 => 0
  | s, m + 1 => if lo ≤ g s ∧ g s ≤ hi then 1 + rn g lo hi (s + 1) m else 0
theorem rn_spec (g : Nat → Nat) (lo hi : Nat) : ∀ m s, rn g lo hi s m ≤ m ∧ (∀ t, t < rn g lo hi s m → lo ≤ g (s + t) ∧ g (s + t) ≤ hi) ∧ (rn g lo hi s m < m → ¬ (lo ≤ g (s + rn g lo hi s m) ∧ g (s + rn g lo hi s m) ≤ hi)) := by
  intro m
  induction m with
  | zero => intro s; exact ⟨Nat.le_refl _, fun t h => by simp [rn] at h, fun h => by simp [rn] at h⟩
  | succ m ih =>
    intro s
    rw [rn]
    by_cases hc : lo ≤ g s ∧ g s ≤ hi
    · rw [if_pos hc]
      obtain ⟨h1, h2, h3⟩ := ih (s + 1)
      refine ⟨by omega, fun t ht => ?_, fun h => ?_⟩
      · cases t with
        | zero => exact hc
        | succ t =>
          have := h2 t (by omega)
          rw [show s + 1 + t = s + (t + 1) by omega] at this
          exact this
      · have := h3 (by omega)
        rw [show s + 1 + rn g lo hi (s + 1) m = s + (1 + rn g lo hi (s + 1) m) by omega] at this
        exact this
    · rw [if_neg hc]
      exact ⟨by omega, fun t h => by omega, fun _ => hc⟩
def lets (g : Nat → Nat) : Nat := rn g 65 68 0 3
def figs (g : Nat → Nat) : Nat := rn g 48 57 (lets g + 2) 6
/-- THE FAULT -/
def flt (ps : Nat → Nat) (pn : Nat) : Option Nat :=
  if 97 ≤ sg ps pn (lets (sg ps pn)) ∧ sg ps pn (lets (sg ps pn)) ≤ 104 then
    if sg ps pn (lets (sg ps pn) + 1) = 61 then
      if lets (sg ps pn) + 2 + figs (sg ps pn) < pn then some (lets (sg ps pn) + 2 + figs (sg ps pn)) else none
    else some (lets (sg ps pn) + 1)
  else some (lets (sg ps pn))
def fldN (g : Nat → Nat) : Nat → Nat
  | 0 => 0
  | k + 1 => fldN g k + (g k - 64) * (if k = 0 then 100 else if k = 1 then 10 else 1)
def conN (g : Nat → Nat) (s : Nat) : Nat → Nat
  | 0 => 1
  | k + 1 => 10 * conN g s k + (g (s + k) - 48)
def pathN (g : Nat → Nat) : Nat := 10 * fldN g (lets g) + (g (lets g) - 97)
def contN (g : Nat → Nat) : Nat := conN g (lets g + 2) (figs g)
def PadC (A I : Nat → Nat → Int32) (pn : Nat) (ps : Nat → Nat) : Prop := I 1 1 = nI pn ∧ pn ≤ 60 ∧ ∀ i, i < pn → A 2 i = nI (ps i)
def VPd (pn : Nat) (ps : Nat → Nat) : Prop := pn ≤ 60 ∧ ∀ i, i < pn → 33 ≤ ps i ∧ ps i ≤ 126
theorem sg_le {pn : Nat} {ps : Nat → Nat} (h : VPd pn ps) (k : Nat) : sg ps pn k ≤ 126 := by
  unfold sg
  split
  · exact (h.2 k (by assumption)).2
  · omega
section PD
variable {A I : Nat → Nat → Int32} {sw : Bool} {pn : Nat} {ps : Nat → Nat}
theorem Pad_signAt (h : PadC A I pn ps) {k : Nat} (hk : k < 2 ^ 31) : f_Pad_signAt (Wd A I sw) 1 (nI k) = some (nI (sg ps pn k)) := by
  have hb := h.2.1
  unfold f_Pad_signAt
  rw [kk_1, if_neg (neg_lt0 hk), gg_1_1, sb, h.1, ifc (nI_leI (by omega) hk)]
  unfold sg
  by_cases hc : pn ≤ k
  · rw [if_pos hc, if_neg (by omega), sb]
    rfl
  · rw [if_neg hc, if_pos (by omega), rr_1_0, sb, ga_2 (by omega), sb, sb, h.2.2 k (by omega)]
theorem Pad_runOf_6 (h : PadC A I pn ps) (hv : VPd pn ps) {s lo hi m : Nat} (hs : s < 1000) (hm : m < 1000) (hl : lo < 1000) (hh : hi < 1000) : ∀ (k j f : Nat), j + k = m → k < f → f_Pad_runOf_6 (Wd A I sw) 1 (nI s) (nI lo) (nI hi) (nI m) f (nI j) (nI j) = some (nI (j + rn (sg ps pn) lo hi (s + j) k)) := by
  intro k
  induction k with
  | zero =>
    intro j f h1 h2
    obtain ⟨g, rfl⟩ : ∃ g, f = g + 1 := ⟨f - 1, by omega⟩
    rw [f_Pad_runOf_6, ifc (nI_leI (by omega) (by omega)), if_pos (by omega)]
    rfl
  | succ k ih =>
    intro j f h1 h2
    obtain ⟨g, rfl⟩ : ∃ g, f = g + 1 := ⟨f - 1, by omega⟩
    have hsg := sg_le hv (s + j)
    rw [f_Pad_runOf_6, ifc (nI_leI (by omega) (by omega)), if_neg (by omega), nI_add, Pad_signAt h (by omega), sb, ifc (nI_ltI (by omega) (by omega)), rn]
    by_cases c1 : sg ps pn (s + j) < lo
    · rw [if_pos c1, if_neg (by omega)]
      rfl
    · rw [if_neg c1, ifc (nI_leI (by omega) (by omega))]
      by_cases c2 : sg ps pn (s + j) ≤ hi
      · rw [if_pos c2, if_pos ⟨by omega, c2⟩, add1, ih (j + 1) g (by omega) (by omega)]
        congr 2
        rw [show s + (j + 1) = s + j + 1 by omega]
        omega
      · rw [if_neg c2, if_neg (by omega)]
        rfl
theorem Pad_letters (h : PadC A I pn ps) (hv : VPd pn ps) : f_Pad_letters (Wd A I sw) 1 = some (nI (lets (sg ps pn))) := by
  unfold f_Pad_letters f_Pad_runOf
  have e := Pad_runOf_6 (sw := sw) h hv (s := 0) (lo := 65) (hi := 68) (m := 3) (by omega) (by omega) (by omega) (by omega) 3 0 FU (by omega) (by rw [FU_eq]; omega)
  rw [Nat.zero_add] at e
  rw [kk_1, kk_1, show f_Pad_runOf_6 (Wd A I sw) 1 (0 : Int32) (65 : Int32) (68 : Int32) (3 : Int32) FU (0 : Int32) (0 : Int32) = _ from e, sb]
  rfl
theorem lets_le (g : Nat → Nat) : lets g ≤ 3 := (rn_spec g 65 68 3 0).1
theorem figs_le (g : Nat → Nat) : figs g ≤ 6 := (rn_spec g 48 57 6 (lets g + 2)).1
theorem Pad_figures (h : PadC A I pn ps) (hv : VPd pn ps) : f_Pad_figures (Wd A I sw) 1 = some (nI (figs (sg ps pn))) := by
  have hl := lets_le (sg ps pn)
  unfold f_Pad_figures f_Pad_runOf
  have e := Pad_runOf_6 (sw := sw) h hv (s := lets (sg ps pn) + 2) (lo := 48) (hi := 57) (m := 6) (by omega) (by omega) (by omega) (by omega) 6 0 FU (by omega) (by rw [FU_eq]; omega)
  rw [Nat.zero_add] at e
  have e2 : nI (lets (sg ps pn)) + (2 : Int32) = nI (lets (sg ps pn) + 2) := nI_add _ 2
  rw [kk_1, Pad_letters h hv, sb, kk_1, e2, show f_Pad_runOf_6 (Wd A I sw) 1 (nI (lets (sg ps pn) + 2)) (48 : Int32) (57 : Int32) (6 : Int32) FU (0 : Int32) (0 : Int32) = _ from e, sb]
  rfl
theorem Pad_firstWrong (h : PadC A I pn ps) (hv : VPd pn ps) : f_Pad_firstWrong (Wd A I sw) 1 = some (o2i (flt ps pn)) := by
  have hl := lets_le (sg ps pn)
  have hf := figs_le (sg ps pn)
  have hb := h.2.1
  have s0 := sg_le hv (lets (sg ps pn))
  have s1 := sg_le hv (lets (sg ps pn) + 1)
  have e2 : nI (lets (sg ps pn)) + (2 : Int32) = nI (lets (sg ps pn) + 2) := nI_add _ 2
  unfold f_Pad_firstWrong flt
  rw [kk_1, Pad_letters h hv, sb, Pad_signAt h (by omega), sb, ifc (lt97 (by omega))]
  by_cases c1 : sg ps pn (lets (sg ps pn)) < 97
  · rw [if_pos c1, if_neg (by omega)]
    rfl
  · rw [if_neg c1, sb, ifc (le104 (by omega))]
    by_cases c2 : sg ps pn (lets (sg ps pn)) ≤ 104
    · rw [if_pos c2, if_pos ⟨by omega, c2⟩, add1, Pad_signAt h (by omega), sb, ifc (eq61 (by omega))]
      by_cases c3 : sg ps pn (lets (sg ps pn) + 1) = 61
      · rw [if_pos c3, if_pos c3, Pad_figures h hv, sb, gg_1_1, sb, h.1, e2, nI_add, ifc (nI_leI (by omega) (by omega))]
        by_cases c4 : lets (sg ps pn) + 2 + figs (sg ps pn) < pn
        · rw [if_pos c4, if_neg (by omega)]
          rfl
        · rw [if_neg c4, if_pos (by omega)]
          rfl
      · rw [if_neg c3, if_neg c3]
        rfl
    · rw [if_neg c2, if_neg (by omega)]
      rfl
end PD
