-- ===== entries that meet =====
def mrk (x : Ent) (b : Bool) : Ent := (x.1, x.2.1, cz x.2.2.1 b 8, x.2.2.2)
def mt (e : Nat → Ent) (n i : Nat) : Bool := (fnd (fun j => !(decide (j = i)) && decide ((e j).1 = (e i).1)) 0 n).isSome
theorem mt_iff {e : Nat → Ent} {n i : Nat} : mt e n i = true ↔ ∃ j, j < n ∧ j ≠ i ∧ (e j).1 = (e i).1 := by
  unfold mt
  have h := fnd_mem (q := fun j => !(decide (j = i)) && decide ((e j).1 = (e i).1)) (n := n)
  rw [Option.isSome_iff_ne_none, h]
  constructor
  · rintro ⟨k, a, b⟩
    rw [Bool.and_eq_true] at b
    exact ⟨k, a, by simpa using b.1, of_decide_eq_true b.2⟩
  · rintro ⟨k, a, b, c⟩
    exact ⟨k, a, by simp [b, c]⟩
theorem mrk_v {x : Ent} (h : VE x) (b : Bool) : VE (mrk x b) := ⟨h.1, h.2.1, cz_lt b h.2.2.1 (by decide), h.2.2.2⟩
def InjE (e : Nat → Ent) (n : Nat) : Prop := ∀ i j, i < j → j < n → e i ≠ e j
theorem InjE.ne {e : Nat → Ent} {n i j : Nat} (h : InjE e n) (hi : i < n) (hj : j < n) (hij : i ≠ j) : e i ≠ e j := by
  rcases Nat.lt_or_gt_of_ne hij with c | c
  · exact h i j c hj
  · exact fun q => h j i c hi q.symm
theorem SoE.inj {e : Nat → Ent} {n : Nat} (h : SoE e n) : InjE e n := fun i j hij hj q => by
  have := h i j hij hj
  rw [q] at this
  omega
/-- the same entries, marked, are the same -/
theorem mrk_same {e d : Nat → Ent} {n k : Nat} (h1 : InjE e n) (h2 : InjE d k) (h : ∀ y, InE e n y ↔ InE d k y) : ∀ y, InE (fun i => mrk (e i) (mt e n i)) n y → InE (fun i => mrk (d i) (mt d k i)) k y := by
  rintro y ⟨i, a1, a2⟩
  obtain ⟨j, b1, b2⟩ := (h (e i)).mp ⟨i, a1, rfl⟩
  refine ⟨j, b1, ?_⟩
  have hm : mt d k j = mt e n i := by
    have : mt d k j = true ↔ mt e n i = true := by
      rw [mt_iff, mt_iff]
      constructor
      · rintro ⟨q, c1, c2, c3⟩
        obtain ⟨r, d1, d2⟩ := (h (d q)).mpr ⟨q, c1, rfl⟩
        refine ⟨r, d1, fun z => ?_, by rw [d2, c3, b2]⟩
        rw [z, ← b2] at d2
        exact h2.ne c1 b1 c2 d2.symm
      · rintro ⟨q, c1, c2, c3⟩
        obtain ⟨r, d1, d2⟩ := (h (e q)).mp ⟨q, c1, rfl⟩
        refine ⟨r, d1, fun z => ?_, by rw [d2, c3, b2]⟩
        rw [z, b2] at d2
        exact h1.ne c1 a1 c2 d2.symm
    cases e1 : mt d k j with
    | true => exact (this.mp e1).symm
    | false =>
      cases e2 : mt e n i with
      | false => rfl
      | true => rw [this.mpr e2] at e1; cases e1
  dsimp only at a2 ⊢
  rw [hm, b2]
  exact a2
theorem ky_path {x y : Ent} (hx : VE x) (hy : VE y) (h : ky x < ky y) : x.1 ≤ y.1 := by
  obtain ⟨a1, a2, a3, a4⟩ := hx.b
  obtain ⟨b1, b2, b3, b4⟩ := hy.b
  unfold ky at h
  omega
theorem or8 : ∀ z, z < 8 → z ||| 8 = z + 8 := by decide
theorem kyv {a b w v k : Nat} (h : a + w < b + v) : a + k + w < b + k + v := by omega
theorem ky8 {p c z w q d y v : Nat} (h : ((p * 2097152 + c) * 16 + z) * 512 + w < ((q * 2097152 + d) * 16 + y) * 512 + v) : ((p * 2097152 + c) * 16 + (z + 8)) * 512 + w < ((q * 2097152 + d) * 16 + (y + 8)) * 512 + v := by
  have e : ∀ a x : Nat, (a * 16 + (x + 8)) * 512 = (a * 16 + x) * 512 + 4096 := fun a x => by rw [← Nat.add_assoc, Nat.add_mul]
  rw [e, e]
  exact kyv h
/-- marking keeps the order -/
theorem mrk_so {e : Nat → Ent} {n : Nat} (h : SoE e n) (hv : ∀ i, i < n → VE (e i)) (h8 : ∀ i, i < n → (e i).2.2.1 < 8) : SoE (fun i => mrk (e i) (mt e n i)) n := by
  intro i j hij hj
  have k := h i j hij hj
  obtain ⟨a1, a2, a3, a4⟩ := (hv i (by omega)).b
  obtain ⟨b1, b2, b3, b4⟩ := (hv j hj).b
  have z1 := h8 i (by omega)
  have z2 := h8 j hj
  dsimp only
  by_cases c : (e i).1 = (e j).1
  · have m1 : mt e n i = true := mt_iff.mpr ⟨j, hj, by omega, c.symm⟩
    have m2 : mt e n j = true := mt_iff.mpr ⟨i, by omega, by omega, c⟩
    have q1 : cz (e i).2.2.1 true 8 = (e i).2.2.1 + 8 := or8 _ z1
    have q2 : cz (e j).2.2.1 true 8 = (e j).2.2.1 + 8 := or8 _ z2
    rw [m1, m2]
    unfold mrk
    unfold ky at k ⊢
    dsimp only
    rw [q1, q2]
    exact ky8 k
  · have hp := ky_path (hv i (by omega)) (hv j hj) k
    have c1 := cz_lt (w := 8) (mt e n i) (show (e i).2.2.1 < 16 by omega) (by decide)
    have c2 := cz_lt (w := 8) (mt e n j) (show (e j).2.2.1 < 16 by omega) (by decide)
    unfold mrk ky
    dsimp only
    generalize cz (e i).2.2.1 (mt e n i) 8 = x1 at *
    generalize cz (e j).2.2.1 (mt e n j) 8 = x2 at *
    omega
/-- what the class has marked when it has looked at the pairs before i -/
def mk8 (e : Nat → Ent) (i k : Nat) : Bool := (decide (1 ≤ k) && decide (k < i) && decide ((e (k - 1)).1 = (e k).1)) || (decide (k + 1 < i) && decide ((e (k + 1)).1 = (e k).1))
theorem mk8_end {e : Nat → Ent} {n : Nat} (h : SoE e n) (hv : ∀ i, i < n → VE (e i)) {k : Nat} (hk : k < n) : mk8 e n k = mt e n k := by
  have mono : ∀ i j, i < j → j < n → (e i).1 ≤ (e j).1 := fun i j a b => ky_path (hv i (by omega)) (hv j b) (h i j a b)
  have : mk8 e n k = true ↔ mt e n k = true := by
    rw [mt_iff]
    unfold mk8
    rw [Bool.or_eq_true, Bool.and_eq_true, Bool.and_eq_true, Bool.and_eq_true, decide_eq_true_iff, decide_eq_true_iff, decide_eq_true_iff, decide_eq_true_iff, decide_eq_true_iff]
    constructor
    · rintro (⟨⟨a, b⟩, c⟩ | ⟨a, c⟩)
      · exact ⟨k - 1, by omega, by omega, c⟩
      · exact ⟨k + 1, a, by omega, c⟩
    · rintro ⟨j, a, b, c⟩
      by_cases q : j < k
      · refine Or.inl ⟨⟨by omega, hk⟩, ?_⟩
        by_cases q2 : j = k - 1
        · rw [← q2]; exact c
        · have m1 := mono j (k - 1) (by omega) (by omega)
          have m2 := mono (k - 1) k (by omega) hk
          omega
      · refine Or.inr ⟨by omega, ?_⟩
        by_cases q2 : j = k + 1
        · rw [← q2]; exact c
        · have m1 := mono k (k + 1) (by omega) (by omega)
          have m2 := mono (k + 1) j (by omega) a
          omega
  cases e1 : mk8 e n k with
  | true => exact (this.mp e1).symm
  | false =>
    cases e2 : mt e n k with
    | false => rfl
    | true => rw [this.mpr e2] at e1; cases e1
section MC
variable {A I : Nat → Nat → Int32} {sw : Bool} {n : Nat} {e : Nat → Ent}
theorem mk8_s {i k : Nat} (hi : 1 ≤ i) : mk8 e (i + 1) k = (mk8 e i k || ((decide (k = i) || decide (k + 1 = i)) && decide ((e (i - 1)).1 = (e i).1))) := by
  unfold mk8
  by_cases c1 : k = i
  · subst c1
    have t1 : decide (1 ≤ k) = true := decide_eq_true hi
    have t2 : decide (k < k + 1) = true := decide_eq_true (by omega)
    have t3 : decide (k + 1 < k + 1) = false := decide_eq_false (by omega)
    have t4 : decide (k < k) = false := decide_eq_false (by omega)
    have t5 : decide (k + 1 < k) = false := decide_eq_false (by omega)
    rw [t1, t2, t3, t4, t5]
    simp
  · by_cases c2 : k + 1 = i
    · subst c2
      have t2 : decide (k < k + 1 + 1) = true := decide_eq_true (by omega)
      have t3 : decide (k + 1 < k + 1 + 1) = true := decide_eq_true (by omega)
      have t4 : decide (k < k + 1) = true := decide_eq_true (by omega)
      have t5 : decide (k + 1 < k + 1) = false := decide_eq_false (by omega)
      have t6 : decide ((e (k + 1)).1 = (e k).1) = decide ((e (k + 1 - 1)).1 = (e (k + 1)).1) := by
        rw [show k + 1 - 1 = k by omega]
        by_cases q : (e (k + 1)).1 = (e k).1
        · rw [decide_eq_true q, decide_eq_true q.symm]
        · rw [decide_eq_false q, decide_eq_false (fun z => q z.symm)]
      rw [t2, t3, t4, t5, t6]
      simp
    · have t1 : decide (k < i + 1) = decide (k < i) := by
        by_cases q : k < i
        · rw [decide_eq_true q, decide_eq_true (by omega)]
        · rw [decide_eq_false q, decide_eq_false (by omega)]
      have t2 : decide (k + 1 < i + 1) = decide (k + 1 < i) := by
        by_cases q : k + 1 < i
        · rw [decide_eq_true q, decide_eq_true (by omega)]
        · rw [decide_eq_false q, decide_eq_false (by omega)]
      rw [t1, t2, decide_eq_false c1, decide_eq_false c2]
      simp
theorem Merge_markMeetings (h : EntC A I n e) (hs : SoE e n) : ∃ A', f_Merge_markMeetings (Wd A I sw) 56 = some (Wd A' I sw) ∧ EntC A' I n (fun i => mrk (e i) (mt e n i)) ∧ ∀ a, a ≠ 59 → A' a = A a := by
  obtain ⟨h1, h2, h3⟩ := h
  have hp : ∀ (B : Nat → Nat → Int32), (∀ a, a ≠ 59 → B a = A a) → ∀ i, i < n → B 57 i = nI (e i).1 := fun B f i hi => by rw [f 57 (by decide)]; exact (h3 i hi).1.1
  have key : ∀ (k i f : Nat) (B : Nat → Nat → Int32), (1 ≤ i ∧ i ≤ 40) → (i + k = n ∨ (n = 0 ∧ k = 0)) → k < f → (∀ a, a ≠ 59 → B a = A a) → (∀ j, j < n → B 59 j = nI (cz (e j).2.2.1 (mk8 e i j) 8)) → ∃ A', f_Merge_markMeetings_2 56 f (nI i) (Wd B I sw) = some (Wd A' I sw) ∧ (∀ j, j < n → A' 59 j = nI (cz (e j).2.2.1 (mt e n j) 8)) ∧ ∀ a, a ≠ 59 → A' a = A a := by
    intro k
    induction k with
    | zero =>
      intro i f B hi e1 e2 e3 e4
      obtain ⟨f, rfl⟩ : ∃ g, f = g + 1 := ⟨f - 1, by omega⟩
      obtain ⟨hi, hi2⟩ := hi
      refine ⟨B, ?_, fun j hj => ?_, e3⟩
      · rw [f_Merge_markMeetings_2, gg_56_4, sb, h1, ifc (nI_leI (by omega) (by omega)), if_pos (by omega)]
      · have : i = n := by omega
        rw [e4 j hj, this, mk8_end hs (fun i hi => (h3 i hi).2) hj]
    | succ k ih =>
      intro i f B hi e1 e2 e3 e4
      obtain ⟨f, rfl⟩ : ∃ g, f = g + 1 := ⟨f - 1, by omega⟩
      obtain ⟨hi, hi2⟩ := hi
      have b1 := (h3 (i - 1) (by omega)).2.b
      have b2 := (h3 i (by omega)).2.b
      have s1 : nI i - (1 : Int32) = nI (i - 1) := sub1 (by omega)
      rw [f_Merge_markMeetings_2, gg_56_4, sb, h1, ifc (nI_leI (by omega) (by omega)), if_neg (by omega), rr_56_0, sb, s1, ga_57 (by omega), sb, hp B e3 (i - 1) (by omega), sb, ga_57 (by omega), sb, hp B e3 i (by omega), ifc (nI_eq (by omega) (by omega)), add1]
      by_cases c : (e (i - 1)).1 = (e i).1
      · have x1 : nI (cz (e (i - 1)).2.2.1 (mk8 e i (i - 1)) 8) ||| (8 : Int32) = nI (cz (e (i - 1)).2.2.1 (mk8 e (i + 1) (i - 1)) 8) := by
          rw [show (8 : Int32) = nI 8 from rfl, (or16 _ (cz_lt _ (by omega) (by decide)) 8 (by decide)).1, show cz (e (i - 1)).2.2.1 (mk8 e i (i - 1)) 8 ||| 8 = cz (cz (e (i - 1)).2.2.1 (mk8 e i (i - 1)) 8) true 8 from rfl, cz_cz, mk8_s hi, decide_eq_true c, show decide (i - 1 + 1 = i) = true from decide_eq_true (by omega)]
          simp
        have x2 : nI (cz (e i).2.2.1 (mk8 e i i) 8) ||| (8 : Int32) = nI (cz (e i).2.2.1 (mk8 e (i + 1) i) 8) := by
          rw [show (8 : Int32) = nI 8 from rfl, (or16 _ (cz_lt _ (by omega) (by decide)) 8 (by decide)).1, show cz (e i).2.2.1 (mk8 e i i) 8 ||| 8 = cz (cz (e i).2.2.1 (mk8 e i i) 8) true 8 from rfl, cz_cz, mk8_s hi, decide_eq_true c, show decide (i = i) = true from decide_eq_true rfl]
          simp
        rw [if_pos c, rr_56_2, sb, ga_59 (by omega), sb, e4 (i - 1) (by omega), x1, sa_59 (by omega), sb, rr_56_2, sb, ga_59 (by omega), sb, up2_m (by omega), e4 i (by omega), x2, sa_59 (by omega), sb, sb]
        refine ih (i + 1) f _ (by omega) (by omega) (by omega) (fun a ha => by rw [up2_fn ha, up2_fn ha]; exact e3 a ha) (fun j hj => ?_)
        rw [up2_at]
        by_cases c1 : j = i
        · rw [if_pos c1, c1]
        · rw [if_neg c1, up2_at]
          by_cases c2 : j = i - 1
          · rw [if_pos c2, c2]
          · rw [if_neg c2, e4 j hj, mk8_s hi, decide_eq_false c1, show decide (j + 1 = i) = false from decide_eq_false (by omega)]
            simp
      · rw [if_neg c, sb]
        refine ih (i + 1) f B (by omega) (by omega) (by omega) e3 (fun j hj => ?_)
        rw [e4 j hj, mk8_s hi, decide_eq_false c]
        simp
  obtain ⟨A', z1, z2, z3⟩ := key (n - 1) 1 FU A (by omega) (by omega) (by rw [FU_eq]; omega) (fun _ _ => rfl) (fun j hj => by
    have : mk8 e 1 j = false := by
      unfold mk8
      rw [show decide (j + 1 < 1) = false from decide_eq_false (by omega)]
      by_cases q : 1 ≤ j
      · rw [show decide (j < 1) = false from decide_eq_false (by omega)]; simp
      · rw [decide_eq_false q]; simp
    rw [this]
    exact (h3 j hj).1.2.2.1)
  refine ⟨A', ?_, ⟨h1, h2, fun i hi => ⟨⟨?_, ?_, z2 i hi, ?_⟩, mrk_v (h3 i hi).2 _⟩⟩, z3⟩
  · unfold f_Merge_markMeetings
    rw [kk_56]
    exact z1
  · rw [z3 57 (by decide)]; exact (h3 i hi).1.1
  · rw [z3 (57 + 1) (by decide)]; exact (h3 i hi).1.2.1
  · rw [z3 (57 + 3) (by decide)]; exact (h3 i hi).1.2.2.2
end MC
