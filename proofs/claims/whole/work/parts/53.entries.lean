-- ===== entries of a merge: path, content, causes, where from =====
abbrev Ent : Type := Nat × Nat × Nat × Nat
def ky (e : Ent) : Nat := ((e.1 * 2097152 + e.2.1) * 16 + e.2.2.1) * 512 + e.2.2.2
def VE (e : Ent) : Prop := vP e.1 = true ∧ vC e.2.1 = true ∧ e.2.2.1 < 16 ∧ e.2.2.2 < 300
theorem VE.b {e : Ent} (h : VE e) : e.1 < 4450 ∧ e.2.1 < 2000000 ∧ e.2.2.1 < 16 ∧ e.2.2.2 < 300 := ⟨vP_lt h.1, (vC_lt h.2.1).2, h.2.2.1, h.2.2.2⟩
theorem ky_inj {e d : Ent} (h1 : VE e) (h2 : VE d) (h : ky e = ky d) : e = d := by
  obtain ⟨a1, a2, a3, a4⟩ := h1.b
  obtain ⟨b1, b2, b3, b4⟩ := h2.b
  unfold ky at h
  obtain ⟨e1, e2, e3, e4⟩ := e
  obtain ⟨d1, d2, d3, d4⟩ := d
  dsimp only at *
  have q1 : e1 = d1 := by omega
  have q2 : e2 = d2 := by omega
  have q3 : e3 = d3 := by omega
  have q4 : e4 = d4 := by omega
  rw [q1, q2, q3, q4]
def InE (e : Nat → Ent) (n : Nat) (y : Ent) : Prop := ∃ i, i < n ∧ e i = y
def SoE (e : Nat → Ent) (n : Nat) : Prop := ∀ i j, i < j → j < n → ky (e i) < ky (e j)
/-- sorted lists of the same entries are the same -/
theorem So_uniq {e d : Nat → Ent} {n k : Nat} (h1 : SoE e n) (h2 : SoE d k) (hv : ∀ i, i < n → VE (e i)) (hv2 : ∀ i, i < k → VE (d i)) (h : ∀ y, InE e n y ↔ InE d k y) : n = k ∧ ∀ i, i < n → e i = d i := by
  have le : ∀ {e d : Nat → Ent} {n k : Nat}, SoE e n → SoE d k → (∀ y, InE e n y → InE d k y) → ∀ i, i < n → i < k → (∀ j, j < i → e j = d j) → ky (d i) ≤ ky (e i) := by
    intro e d n k h1 h2 h i hi hk hj
    obtain ⟨j, a1, a2⟩ := h (e i) ⟨i, hi, rfl⟩
    by_cases c : j < i
    · have := h1 j i c hi
      rw [hj j c, a2] at this
      omega
    · by_cases c2 : j = i
      · rw [← a2, c2]; exact Nat.le_refl _
      · have := h2 i j (by omega) a1
        rw [a2] at this
        omega
  have eq : ∀ i, i < n → i < k → e i = d i := by
    intro i
    induction i using Nat.strongRecOn with
    | _ i ih =>
      intro hn hk
      have hj : ∀ j, j < i → e j = d j := fun j hj => ih j hj (by omega) (by omega)
      have a := le h1 h2 (fun y => (h y).mp) i hn hk hj
      have b := le h2 h1 (fun y => (h y).mpr) i hk hn (fun j q => (hj j q).symm)
      exact ky_inj (hv i hn) (hv2 i hk) (by omega)
  have nk : n = k := by
    rcases Nat.lt_trichotomy n k with c | c | c
    · obtain ⟨j, a1, a2⟩ := (h (d n)).mpr ⟨n, c, rfl⟩
      have := h2 j n a1 c
      rw [← eq j a1 (by omega), a2] at this
      omega
    · exact c
    · obtain ⟨j, a1, a2⟩ := (h (e k)).mp ⟨k, c, rfl⟩
      have := h1 j k a1 c
      rw [eq j (by omega) a1, a2] at this
      omega
  subst nk
  exact ⟨rfl, fun i hi => eq i hi hi⟩
def insE (e : Nat → Ent) (k : Nat) (x : Ent) : Nat → Ent := fun i => if i < k then e i else if i = k then x else e (i - 1)
theorem insE_in {e : Nat → Ent} {n k : Nat} {x : Ent} (hk : k ≤ n) (y : Ent) : InE (insE e k x) (n + 1) y ↔ InE e n y ∨ y = x := by
  unfold InE insE
  constructor
  · rintro ⟨i, a1, a2⟩
    by_cases c1 : i < k
    · rw [if_pos c1] at a2
      exact Or.inl ⟨i, by omega, a2⟩
    · by_cases c2 : i = k
      · rw [if_neg c1, if_pos c2] at a2
        exact Or.inr a2.symm
      · rw [if_neg c1, if_neg c2] at a2
        exact Or.inl ⟨i - 1, by omega, a2⟩
  · rintro (⟨i, a1, a2⟩ | a)
    · by_cases c1 : i < k
      · exact ⟨i, by omega, by rw [if_pos c1]; exact a2⟩
      · exact ⟨i + 1, by omega, by rw [if_neg (by omega), if_neg (by omega)]; exact a2⟩
    · exact ⟨k, by omega, by rw [if_neg (by omega), if_pos rfl, a]⟩
theorem insE_so {e : Nat → Ent} {n k : Nat} {x : Ent} (hk : k ≤ n) (h : SoE e n) (h1 : ∀ i, k ≤ i → i < n → ky x < ky (e i)) (h2 : k = 0 ∨ ky (e (k - 1)) < ky x) : SoE (insE e k x) (n + 1) := by
  intro i j hij hj
  unfold insE
  by_cases a : j < k
  · rw [if_pos (show i < k by omega), if_pos a]
    exact h i j hij (by omega)
  · by_cases b : j = k
    · rw [if_pos (show i < k by omega), if_neg a, if_pos b]
      rcases h2 with h2 | h2
      · omega
      · by_cases c : i = k - 1
        · rw [c]; exact h2
        · have := h i (k - 1) (by omega) (by omega)
          omega
    · rw [if_neg a, if_neg b]
      by_cases c1 : i < k
      · rw [if_pos c1]
        exact h i (j - 1) (by omega) (by omega)
      · by_cases c2 : i = k
        · rw [if_neg c1, if_pos c2]
          exact h1 (j - 1) (by omega) (by omega)
        · rw [if_neg c1, if_neg c2]
          exact h (i - 1) (j - 1) (by omega) (by omega)
-- ===== the class's entries =====
def rowE (A : Nat → Nat → Int32) (a i : Nat) (x : Ent) : Prop := A a i = nI x.1 ∧ A (a + 1) i = nI x.2.1 ∧ A (a + 2) i = nI x.2.2.1 ∧ A (a + 3) i = nI x.2.2.2
def EntC (A I : Nat → Nat → Int32) (n : Nat) (e : Nat → Ent) : Prop := I 56 4 = nI n ∧ n ≤ 36 ∧ ∀ i, i < n → rowE A 57 i (e i) ∧ VE (e i)
/-- only the class's entries were changed -/
def EF (A I A' I' : Nat → Nat → Int32) : Prop := (∀ a, a ≠ 57 → a ≠ 58 → a ≠ 59 → a ≠ 60 → A' a = A a) ∧ ∀ a b, (a ≠ 56 ∨ b ≠ 4) → I' a b = I a b
theorem EF.rf {A I : Nat → Nat → Int32} : EF A I A I := ⟨fun _ _ _ _ _ => rfl, fun _ _ _ => rfl⟩
theorem EF.tr {A I B J C K : Nat → Nat → Int32} (h : EF A I B J) (g : EF B J C K) : EF A I C K := ⟨fun a h1 h2 h3 h4 => (g.1 a h1 h2 h3 h4).trans (h.1 a h1 h2 h3 h4), fun a b e => (g.2 a b e).trans (h.2 a b e)⟩
section EC
variable {A I : Nat → Nat → Int32} {sw : Bool} {n : Nat} {e : Nat → Ent}
theorem Merge_isBehind {i : Nat} {x y : Ent} (hi : i < 36) (h : rowE A 57 i y) (hy : VE y) (hx : VE x) : f_Merge_isBehind (Wd A I sw) 56 (nI i) (nI x.1) (nI x.2.1) (nI x.2.2.1) (nI x.2.2.2) = some (if ky x < ky y then 1 else 0) := by
  obtain ⟨a1, a2, a3, a4⟩ := hx.b
  obtain ⟨b1, b2, b3, b4⟩ := hy.b
  obtain ⟨h1, h2, h3, h4⟩ := h
  unfold f_Merge_isBehind
  have h2 : A 58 i = nI y.2.1 := h2
  have h3 : A 59 i = nI y.2.2.1 := h3
  have h4 : A 60 i = nI y.2.2.2 := h4
  simp only [kk_56, rr_56_0, rr_56_1, rr_56_2, rr_56_3, sb, ga_57 hi, ga_58 hi, ga_59 hi, ga_60 hi, h1, h2, h3, h4, eq_nI (show y.1 < 2 ^ 31 by omega) (show x.1 < 2 ^ 31 by omega), eq_nI (show y.2.1 < 2 ^ 31 by omega) (show x.2.1 < 2 ^ 31 by omega), eq_nI (show y.2.2.1 < 2 ^ 31 by omega) (show x.2.2.1 < 2 ^ 31 by omega), le_nI (show y.1 < 2 ^ 31 by omega) (show x.1 < 2 ^ 31 by omega), le_nI (show y.2.1 < 2 ^ 31 by omega) (show x.2.1 < 2 ^ 31 by omega), le_nI (show y.2.2.1 < 2 ^ 31 by omega) (show x.2.2.1 < 2 ^ 31 by omega), le_nI (show y.2.2.2 < 2 ^ 31 by omega) (show x.2.2.2 < 2 ^ 31 by omega)]
  unfold ky
  by_cases c1 : y.1 = x.1
  · rw [if_pos c1]
    by_cases c2 : y.2.1 = x.2.1
    · rw [if_pos c2]
      by_cases c3 : y.2.2.1 = x.2.2.1
      · rw [if_pos c3]
        by_cases c4 : y.2.2.2 ≤ x.2.2.2
        · rw [if_pos c4, sb, rz_0, if_neg (by omega)]
        · rw [if_neg c4, sb, rz_1, if_pos (by omega)]
      · rw [if_neg c3]
        by_cases c4 : y.2.2.1 ≤ x.2.2.1
        · rw [if_pos c4, sb, rz_0, if_neg (by omega)]
        · rw [if_neg c4, sb, rz_1, if_pos (by omega)]
    · rw [if_neg c2]
      by_cases c4 : y.2.1 ≤ x.2.1
      · rw [if_pos c4, rz_0, if_neg (by omega)]
      · rw [if_neg c4, rz_1, if_pos (by omega)]
  · rw [if_neg c1]
    by_cases c4 : y.1 ≤ x.1
    · rw [if_pos c4, rz_0, if_neg (by omega)]
    · rw [if_neg c4, rz_1, if_pos (by omega)]
theorem rowE_put {B : Nat → Nat → Int32} {j : Nat} {x : Ent} {p c z w : Int32} (h1 : p = nI x.1) (h2 : c = nI x.2.1) (h3 : z = nI x.2.2.1) (h4 : w = nI x.2.2.2) : rowE (up2 (up2 (up2 (up2 B 57 j p) 58 j c) 59 j z) 60 j w) 57 j x := by
  unfold rowE
  simp only [up2_at, up2_n (show 57 ≠ 58 by decide), up2_n (show 57 ≠ 59 by decide), up2_n (show 57 ≠ 60 by decide), up2_n (show 57 + 1 ≠ 59 by decide), up2_n (show 57 + 1 ≠ 60 by decide), up2_n (show 57 + 2 ≠ 60 by decide), up2_n (show 58 ≠ 59 by decide), up2_n (show 58 ≠ 60 by decide), up2_n (show 59 ≠ 60 by decide), if_true]
  exact ⟨h1, h2, h3, h4⟩
theorem rowE_else {B : Nat → Nat → Int32} {i j : Nat} {x : Ent} {p c z w : Int32} (hij : i ≠ j) (h : rowE B 57 i x) : rowE (up2 (up2 (up2 (up2 B 57 j p) 58 j c) 59 j z) 60 j w) 57 i x := by
  unfold rowE at h ⊢
  rw [up2_m hij, up2_m hij, up2_m hij, up2_m hij, up2_m hij, up2_m hij, up2_m hij, up2_m hij, up2_m hij, up2_m hij, up2_m hij, up2_m hij, up2_m hij, up2_m hij, up2_m hij, up2_m hij]
  exact h
theorem Merge_add (h : EntC A I n e) (hn : n < 36) {x : Ent} (hx : VE x) : ∃ A' I' k, f_Merge_add (Wd A I sw) 56 (nI x.1) (nI x.2.1) (nI x.2.2.1) (nI x.2.2.2) = some (Wd A' I' sw) ∧ k ≤ n ∧ (∀ i, k ≤ i → i < n → ky x < ky (e i)) ∧ (k = 0 ∨ ¬ ky x < ky (e (k - 1))) ∧ EntC A' I' (n + 1) (insE e k x) ∧ EF A I A' I' := by
  obtain ⟨h1, h2, h3⟩ := h
  -- the place is made
  have put : ∀ (k : Nat) (B : Nat → Nat → Int32), k ≤ n → EF A I B I → (∀ i, i < k → rowE B 57 i (e i)) → (∀ i, k < i → i ≤ n → rowE B 57 i (e (i - 1))) → ∃ A' I', f_Merge_add_119 (Wd B I sw) 56 (nI x.1) (nI x.2.1) (nI x.2.2.1) (nI x.2.2.2) (nI k) = some (Wd A' I' sw) ∧ EntC A' I' (n + 1) (insE e k x) ∧ EF A I A' I' := by
    intro k B hk hF hlo hhi
    refine ⟨up2 (up2 (up2 (up2 B 57 k (nI x.1)) 58 k (nI x.2.1)) 59 k (nI x.2.2.1)) 60 k (nI x.2.2.2), up2 I 56 4 (nI (n + 1)), ?_, ⟨up2_s _ _ _ _, by omega, fun i hi => ?_⟩, ⟨fun a a1 a2 a3 a4 => ?_, fun a b hb => ?_⟩⟩
    · unfold f_Merge_add_119
      rw [rr_56_0, sb, sa_57 (by omega), sb, rr_56_1, sb, sa_58 (by omega), sb, rr_56_2, sb, sa_59 (by omega), sb, rr_56_3, sb, sa_60 (by omega), sb, gg_56_4, sb, h1, add1, ss_56_4, sb]
    · unfold insE
      by_cases c1 : i < k
      · rw [if_pos c1]
        exact ⟨rowE_else (by omega) (hlo i c1), (h3 i (by omega)).2⟩
      · by_cases c2 : i = k
        · rw [if_neg c1, if_pos c2, c2]
          exact ⟨rowE_put rfl rfl rfl rfl, hx⟩
        · rw [if_neg c1, if_neg c2]
          exact ⟨rowE_else c2 (hhi i (by omega) (by omega)), (h3 (i - 1) (by omega)).2⟩
    · rw [up2_fn a4, up2_fn a3, up2_fn a2, up2_fn a1]
      exact hF.1 a a1 a2 a3 a4
    · by_cases c : a = 56
      · exact up2_m (by omega)
      · exact up2_n c
  have key : ∀ (k f : Nat) (B : Nat → Nat → Int32), k ≤ n → k < f → EF A I B I → (∀ i, i < k → rowE B 57 i (e i)) → (∀ i, k < i → i ≤ n → rowE B 57 i (e (i - 1))) → (∀ i, k ≤ i → i < n → ky x < ky (e i)) → ∃ A' I' q, f_Merge_add_22 56 (nI x.1) (nI x.2.1) (nI x.2.2.1) (nI x.2.2.2) f (nI k) (nI k) (Wd B I sw) = some (Wd A' I' sw) ∧ q ≤ n ∧ (∀ i, q ≤ i → i < n → ky x < ky (e i)) ∧ (q = 0 ∨ ¬ ky x < ky (e (q - 1))) ∧ EntC A' I' (n + 1) (insE e q x) ∧ EF A I A' I' := by
    intro k
    induction k with
    | zero =>
      intro f B hk hf hF hlo hhi hb
      obtain ⟨f, rfl⟩ : ∃ g, f = g + 1 := ⟨f - 1, by omega⟩
      obtain ⟨A', I', z1, z2, z3⟩ := put 0 B hk hF hlo hhi
      refine ⟨A', I', 0, ?_, hk, hb, Or.inl rfl, z2, z3⟩
      rw [f_Merge_add_22, if_pos (by decide)]
      exact z1
    | succ k ih =>
      intro f B hk hf hF hlo hhi hb
      obtain ⟨f, rfl⟩ : ∃ g, f = g + 1 := ⟨f - 1, by omega⟩
      have s1 : nI (k + 1) - (1 : Int32) = nI k := sub1 (by omega)
      have s2 : nI (k + 1) + (-1 : Int32) = nI k := subm1 (by omega)
      have hr := hlo k (by omega)
      rw [f_Merge_add_22, ifc (le0 (by omega)), if_neg (by omega), s1, Merge_isBehind (by omega) hr (h3 k (by omega)).2 hx, sb]
      by_cases c : ky x < ky (e k)
      · obtain ⟨r1, r2, r3, r4⟩ := hr
        have r2 : B 58 k = nI (e k).2.1 := r2
        have r3 : B 59 k = nI (e k).2.2.1 := r3
        have r4 : B 60 k = nI (e k).2.2.2 := r4
        rw [if_pos c, if_neg (by decide), s2]
        simp only [rr_56_0, rr_56_1, rr_56_2, rr_56_3, sb, ga_57 (show k < 36 by omega), sa_57 (show k + 1 < 36 by omega), ga_58 (show k < 36 by omega), sa_58 (show k + 1 < 36 by omega), ga_59 (show k < 36 by omega), sa_59 (show k + 1 < 36 by omega), ga_60 (show k < 36 by omega), sa_60 (show k + 1 < 36 by omega), up2_n (show 58 ≠ 57 by decide), up2_n (show 59 ≠ 57 by decide), up2_n (show 59 ≠ 58 by decide), up2_n (show 60 ≠ 57 by decide), up2_n (show 60 ≠ 58 by decide), up2_n (show 60 ≠ 59 by decide), r1, r2, r3, r4]
        refine ih f _ (by omega) (by omega) ⟨fun a a1 a2 a3 a4 => ?_, hF.2⟩ (fun i hi => rowE_else (by omega) (hlo i (by omega))) (fun i hi hi2 => ?_) (fun i hi hi2 => ?_)
        · rw [up2_fn a4, up2_fn a3, up2_fn a2, up2_fn a1]
          exact hF.1 a a1 a2 a3 a4
        · by_cases q : i = k + 1
          · rw [q]
            exact rowE_put rfl rfl rfl rfl
          · exact rowE_else q (hhi i (by omega) hi2)
        · by_cases q : i = k
          · rw [q]; exact c
          · exact hb i (by omega) hi2
      · obtain ⟨A', I', z1, z2, z3⟩ := put (k + 1) B hk hF hlo hhi
        rw [if_neg c, if_pos rfl]
        exact ⟨A', I', k + 1, z1, hk, hb, Or.inr c, z2, z3⟩
  unfold f_Merge_add
  rw [kk_56, gg_56_4, sb, h1, ifc (lt36 (by omega)), if_pos hn, sb, sb]
  exact key n FU A (Nat.le_refl _) (by rw [FU_eq]; omega) EF.rf (fun i hi => (h3 i hi).1) (fun i a b => by omega) (fun i a b => by omega)
end EC
-- ===== the reference's entries =====
def EntM (A I : Nat → Nat → Int32) (n : Nat) (e : Nat → Ent) : Prop := I 64 20 = nI n ∧ n ≤ 36 ∧ ∀ i, i < n → rowE A 74 i (e i) ∧ VE (e i)
def EMF (A I A' I' : Nat → Nat → Int32) : Prop := (∀ a, a ≠ 74 → a ≠ 75 → a ≠ 76 → a ≠ 77 → A' a = A a) ∧ ∀ a b, (a ≠ 64 ∨ b ≠ 20) → I' a b = I a b
def appE (e : Nat → Ent) (n : Nat) (x : Ent) : Nat → Ent := fun i => if i = n then x else e i
theorem rowM_put {B : Nat → Nat → Int32} {j : Nat} {x : Ent} {p c z w : Int32} (h1 : p = nI x.1) (h2 : c = nI x.2.1) (h3 : z = nI x.2.2.1) (h4 : w = nI x.2.2.2) : rowE (up2 (up2 (up2 (up2 B 74 j p) 75 j c) 76 j z) 77 j w) 74 j x := by
  unfold rowE
  simp only [up2_at, up2_n (show 74 ≠ 75 by decide), up2_n (show 74 ≠ 76 by decide), up2_n (show 74 ≠ 77 by decide), up2_n (show 74 + 1 ≠ 76 by decide), up2_n (show 74 + 1 ≠ 77 by decide), up2_n (show 74 + 2 ≠ 77 by decide), up2_n (show 75 ≠ 76 by decide), up2_n (show 75 ≠ 77 by decide), up2_n (show 76 ≠ 77 by decide), if_true]
  exact ⟨h1, h2, h3, h4⟩
theorem rowM_else {B : Nat → Nat → Int32} {i j : Nat} {x : Ent} {p c z w : Int32} (hij : i ≠ j) (h : rowE B 74 i x) : rowE (up2 (up2 (up2 (up2 B 74 j p) 75 j c) 76 j z) 77 j w) 74 i x := by
  unfold rowE at h ⊢
  rw [up2_m hij, up2_m hij, up2_m hij, up2_m hij, up2_m hij, up2_m hij, up2_m hij, up2_m hij, up2_m hij, up2_m hij, up2_m hij, up2_m hij, up2_m hij, up2_m hij, up2_m hij, up2_m hij]
  exact h
theorem Mo_addEntry {A I : Nat → Nat → Int32} {sw : Bool} {n : Nat} {e : Nat → Ent} (h : EntM A I n e) (hn : n < 36) {x : Ent} (hx : VE x) : ∃ A' I', f_Mo_addEntry (Wd A I sw) 64 (nI x.1) (nI x.2.1) (nI x.2.2.1) (nI x.2.2.2) = some (Wd A' I' sw) ∧ EntM A' I' (n + 1) (appE e n x) ∧ EMF A I A' I' := by
  obtain ⟨h1, h2, h3⟩ := h
  refine ⟨up2 (up2 (up2 (up2 A 74 n (nI x.1)) 75 n (nI x.2.1)) 76 n (nI x.2.2.1)) 77 n (nI x.2.2.2), up2 I 64 20 (nI (n + 1)), ?_, ⟨up2_s _ _ _ _, by omega, fun i hi => ?_⟩, ⟨fun a a1 a2 a3 a4 => ?_, fun a b hb => ?_⟩⟩
  · unfold f_Mo_addEntry
    simp only [kk_64, rr_64_16, rr_64_17, rr_64_18, rr_64_19, gg_64_20, sb, h1, sa_74 hn, sa_75 hn, sa_76 hn, sa_77 hn, add1, ss_64_20]
  · unfold appE
    by_cases c : i = n
    · rw [if_pos c, c]
      exact ⟨rowM_put rfl rfl rfl rfl, hx⟩
    · rw [if_neg c]
      exact ⟨rowM_else c (h3 i (by omega)).1, (h3 i (by omega)).2⟩
  · rw [up2_fn a4, up2_fn a3, up2_fn a2, up2_fn a1]
  · by_cases c : a = 64
    · exact up2_m (by omega)
    · exact up2_n c
theorem appE_in {e : Nat → Ent} {n : Nat} {x : Ent} (y : Ent) : InE (appE e n x) (n + 1) y ↔ InE e n y ∨ y = x := by
  unfold InE appE
  constructor
  · rintro ⟨i, a1, a2⟩
    by_cases c : i = n
    · rw [if_pos c] at a2; exact Or.inr a2.symm
    · rw [if_neg c] at a2; exact Or.inl ⟨i, by omega, a2⟩
  · rintro (⟨i, a1, a2⟩ | a)
    · exact ⟨i, by omega, by rw [if_neg (by omega)]; exact a2⟩
    · exact ⟨n, by omega, by rw [if_pos rfl, a]⟩
