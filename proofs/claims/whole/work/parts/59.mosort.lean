-- ===== the reference: meetings and order =====
def M4F (A A' : Nat → Nat → Int32) : Prop := ∀ a, a ≠ 74 → a ≠ 75 → a ≠ 76 → a ≠ 77 → A' a = A a
theorem M4F.tr {A B C : Nat → Nat → Int32} (h : M4F A B) (g : M4F B C) : M4F A C := fun a h1 h2 h3 h4 => (g a h1 h2 h3 h4).trans (h a h1 h2 h3 h4)
/-- another before j has i's path -/
def mtK (e : Nat → Ent) (i j : Nat) : Bool := (fnd (fun q => !(decide (q = i)) && decide ((e q).1 = (e i).1)) 0 j).isSome
theorem mtK_s {e : Nat → Ent} {i j : Nat} : mtK e i (j + 1) = (mtK e i j || (!(decide (j = i)) && decide ((e j).1 = (e i).1))) := by
  have h1 := fnd_mem (q := fun q => !(decide (q = i)) && decide ((e q).1 = (e i).1)) (n := j + 1)
  have h2 := fnd_mem (q := fun q => !(decide (q = i)) && decide ((e q).1 = (e i).1)) (n := j)
  rw [← Option.isSome_iff_ne_none] at h1 h2
  have : mtK e i (j + 1) = true ↔ (mtK e i j || (!(decide (j = i)) && decide ((e j).1 = (e i).1))) = true := by
    rw [Bool.or_eq_true]
    unfold mtK
    rw [h1, h2]
    constructor
    · rintro ⟨k, a, b⟩
      by_cases c : k = j
      · subst c; exact Or.inr b
      · exact Or.inl ⟨k, by omega, b⟩
    · rintro (⟨k, a, b⟩ | b)
      · exact ⟨k, by omega, b⟩
      · exact ⟨j, by omega, b⟩
  cases e1 : mtK e i (j + 1) with
  | true => exact (this.mp e1).symm
  | false =>
    cases e2 : (mtK e i j || (!(decide (j = i)) && decide ((e j).1 = (e i).1))) with
    | false => rfl
    | true => rw [this.mpr e2] at e1; cases e1
section MS
variable {A I : Nat → Nat → Int32} {sw : Bool} {n : Nat} {e : Nat → Ent}
theorem Mo_meetAll (h : EntM A I n e) : ∃ A', f_Mo_meetAll (Wd A I sw) 64 = some (Wd A' I sw) ∧ EntM A' I n (fun i => mrk (e i) (mt e n i)) ∧ ∀ a, a ≠ 76 → A' a = A a := by
  obtain ⟨h1, h2, h3⟩ := h
  have hp : ∀ (B : Nat → Nat → Int32), (∀ a, a ≠ 76 → B a = A a) → ∀ i, i < n → B 74 i = nI (e i).1 := fun B f i hi => by rw [f 74 (by decide)]; exact (h3 i hi).1.1
  have inner : ∀ (i : Nat) (K : Int32 → Hp → Option Hp), i < n → ∀ (k j f : Nat) (B : Nat → Nat → Int32), j + k = n → k < f → (∀ a, a ≠ 76 → B a = A a) → B 76 i = nI (cz (e i).2.2.1 (mtK e i j) 8) → ∃ A', f_Mo_meetAll_12 64 (nI i) K f (nI j) (Wd B I sw) = K (nI (i + 1)) (Wd A' I sw) ∧ (∀ a, a ≠ 76 → A' a = A a) ∧ A' 76 i = nI (cz (e i).2.2.1 (mt e n i) 8) ∧ ∀ q, q ≠ i → A' 76 q = B 76 q := by
    intro i K hi k
    induction k with
    | zero =>
      intro j f B e1 e2 e3 e4
      obtain ⟨f, rfl⟩ : ∃ g, f = g + 1 := ⟨f - 1, by omega⟩
      have hj : j = n := by omega
      subst hj
      refine ⟨B, ?_, e3, e4, fun _ _ => rfl⟩
      rw [f_Mo_meetAll_12, gg_64_20, sb, h1, if_pos (Int32.le_refl _), add1]
    | succ k ih =>
      intro j f B e1 e2 e3 e4
      obtain ⟨f, rfl⟩ : ∃ g, f = g + 1 := ⟨f - 1, by omega⟩
      have b1 := (h3 i hi).2.b
      have b2 := (h3 j (by omega)).2.b
      rw [f_Mo_meetAll_12, gg_64_20, sb, h1, ifc (nI_leI (by omega) (by omega)), if_neg (by omega), ifc (nI_eq (by omega) (by omega)), rr_64_16, sb, ga_74 (by omega), sb, hp B e3 i hi, sb, ga_74 (by omega), sb, hp B e3 j (by omega), ifc (nI_eq (by omega) (by omega)), add1]
      by_cases c1 : i = j
      · rw [if_pos c1, sb]
        exact ih (j + 1) f B (by omega) (by omega) e3 (by rw [e4, mtK_s, decide_eq_true c1.symm]; simp)
      · rw [if_neg c1]
        by_cases c2 : (e i).1 = (e j).1
        · have x1 : nI (cz (e i).2.2.1 (mtK e i j) 8) ||| (8 : Int32) = nI (cz (e i).2.2.1 (mtK e i (j + 1)) 8) := by
            rw [show (8 : Int32) = nI 8 from rfl, (or16 _ (cz_lt _ (by omega) (by decide)) 8 (by decide)).1, show cz (e i).2.2.1 (mtK e i j) 8 ||| 8 = cz (cz (e i).2.2.1 (mtK e i j) 8) true 8 from rfl, cz_cz, mtK_s, decide_eq_false (fun q => c1 q.symm), decide_eq_true c2.symm]
            simp
          rw [if_pos c2, rr_64_18, sb, ga_76 (by omega), sb, e4, x1, sa_76 (by omega), sb, sb]
          obtain ⟨A', z1, z2, z3, z4⟩ := ih (j + 1) f (up2 B 76 i (nI (cz (e i).2.2.1 (mtK e i (j + 1)) 8))) (by omega) (by omega) (fun a ha => by rw [up2_fn ha]; exact e3 a ha) (up2_s _ _ _ _)
          exact ⟨A', z1, z2, z3, fun q hq => (z4 q hq).trans (up2_m hq)⟩
        · rw [if_neg c2, sb]
          exact ih (j + 1) f B (by omega) (by omega) e3 (by rw [e4, mtK_s, decide_eq_false (show ¬ (e j).1 = (e i).1 from fun q => c2 q.symm)]; simp)
  have key : ∀ (k i f : Nat) (B : Nat → Nat → Int32), i + k = n → k < f → (∀ a, a ≠ 76 → B a = A a) → (∀ j, j < n → B 76 j = if j < i then nI (cz (e j).2.2.1 (mt e n j) 8) else nI (e j).2.2.1) → ∃ A', f_Mo_meetAll_2 64 f (nI i) (Wd B I sw) = some (Wd A' I sw) ∧ (∀ a, a ≠ 76 → A' a = A a) ∧ ∀ j, j < n → A' 76 j = nI (cz (e j).2.2.1 (mt e n j) 8) := by
    intro k
    induction k with
    | zero =>
      intro i f B e1 e2 e3 e4
      obtain ⟨f, rfl⟩ : ∃ g, f = g + 1 := ⟨f - 1, by omega⟩
      have hi : i = n := by omega
      subst hi
      refine ⟨B, ?_, e3, fun j hj => by rw [e4 j hj, if_pos hj]⟩
      rw [f_Mo_meetAll_2, gg_64_20, sb, h1, if_pos (Int32.le_refl _)]
    | succ k ih =>
      intro i f B e1 e2 e3 e4
      obtain ⟨f, rfl⟩ : ∃ g, f = g + 1 := ⟨f - 1, by omega⟩
      obtain ⟨B1, z1, z2, z3, z4⟩ := inner i (fun l1 h => f_Mo_meetAll_2 64 f l1 h) (by omega) n 0 FU B (by omega) (by rw [FU_eq]; omega) e3 (by rw [e4 i (by omega), if_neg (by omega)]; rfl)
      rw [show nI 0 = (0 : Int32) from rfl] at z1
      rw [f_Mo_meetAll_2, gg_64_20, sb, h1, ifc (nI_leI (by omega) (by omega)), if_neg (by omega), z1]
      refine ih (i + 1) f B1 (by omega) (by omega) z2 (fun j hj => ?_)
      by_cases c : j = i
      · rw [c, if_pos (by omega)]; exact z3
      · rw [z4 j c, e4 j hj]
        by_cases c2 : j < i
        · rw [if_pos c2, if_pos (by omega)]
        · rw [if_neg c2, if_neg (by omega)]
  obtain ⟨A', z1, z2, z3⟩ := key n 0 FU A (by omega) (by rw [FU_eq]; omega) (fun _ _ => rfl) (fun j hj => by rw [if_neg (by omega)]; exact (h3 j hj).1.2.2.1)
  refine ⟨A', ?_, ⟨h1, h2, fun i hi => ⟨⟨?_, ?_, z3 i hi, ?_⟩, mrk_v (h3 i hi).2 _⟩⟩, z2⟩
  · unfold f_Mo_meetAll
    rw [kk_64]
    exact z1
  · rw [z2 74 (by decide)]; exact (h3 i hi).1.1
  · rw [z2 (74 + 1) (by decide)]; exact (h3 i hi).1.2.1
  · rw [z2 (74 + 3) (by decide)]; exact (h3 i hi).1.2.2.2
theorem Mo_isBefore {i j : Nat} {x y : Ent} (hi : i < 36) (hj : j < 36) (h : rowE A 74 i x) (g : rowE A 74 j y) (hx : VE x) (hy : VE y) : f_Mo_isBefore (Wd A I sw) 64 (nI i) (nI j) = some (if ky x < ky y then 1 else 0) := by
  obtain ⟨a1, a2, a3, a4⟩ := hx.b
  obtain ⟨b1, b2, b3, b4⟩ := hy.b
  obtain ⟨h1, h2, h3, h4⟩ := h
  obtain ⟨g1, g2, g3, g4⟩ := g
  have h2 : A 75 i = nI x.2.1 := h2
  have h3 : A 76 i = nI x.2.2.1 := h3
  have h4 : A 77 i = nI x.2.2.2 := h4
  have g2 : A 75 j = nI y.2.1 := g2
  have g3 : A 76 j = nI y.2.2.1 := g3
  have g4 : A 77 j = nI y.2.2.2 := g4
  unfold f_Mo_isBefore
  simp only [kk_64, rr_64_16, rr_64_17, rr_64_18, rr_64_19, sb, ga_74 hi, ga_75 hi, ga_76 hi, ga_77 hi, ga_74 hj, ga_75 hj, ga_76 hj, ga_77 hj, h1, h2, h3, h4, g1, g2, g3, g4, eq_nI (show x.1 < 2 ^ 31 by omega) (show y.1 < 2 ^ 31 by omega), eq_nI (show x.2.1 < 2 ^ 31 by omega) (show y.2.1 < 2 ^ 31 by omega), eq_nI (show x.2.2.1 < 2 ^ 31 by omega) (show y.2.2.1 < 2 ^ 31 by omega), le_nI (show y.1 < 2 ^ 31 by omega) (show x.1 < 2 ^ 31 by omega), le_nI (show y.2.1 < 2 ^ 31 by omega) (show x.2.1 < 2 ^ 31 by omega), le_nI (show y.2.2.1 < 2 ^ 31 by omega) (show x.2.2.1 < 2 ^ 31 by omega), le_nI (show y.2.2.2 < 2 ^ 31 by omega) (show x.2.2.2 < 2 ^ 31 by omega)]
  unfold ky
  by_cases c1 : x.1 = y.1
  · rw [if_pos c1]
    by_cases c2 : x.2.1 = y.2.1
    · rw [if_pos c2]
      by_cases c3 : x.2.2.1 = y.2.2.1
      · rw [if_pos c3]
        by_cases c4 : y.2.2.2 ≤ x.2.2.2
        · rw [if_pos c4, sb, rz_0, if_neg (by omega)]
        · rw [if_neg c4, sb, rz_1, if_pos (by omega)]
      · rw [if_neg c3]
        by_cases c4 : y.2.2.1 ≤ x.2.2.1
        · rw [if_pos c4, sb, rz_0, if_neg (by omega)]
        · rw [if_neg c4, sb, rz_1, if_pos (by omega)]
    · rw [if_neg c2]
      by_cases c4 : y.2.1 ≤ x.2.1
      · rw [if_pos c4, rz_0, if_neg (by omega)]
      · rw [if_neg c4, rz_1, if_pos (by omega)]
  · rw [if_neg c1]
    by_cases c4 : y.1 ≤ x.1
    · rw [if_pos c4, rz_0, if_neg (by omega)]
    · rw [if_neg c4, rz_1, if_pos (by omega)]
def swp (e : Nat → Ent) (a b : Nat) : Nat → Ent := fun i => if i = a then e b else if i = b then e a else e i
theorem swp_in {a b : Nat} (ha : a < n) (hb : b < n) (y : Ent) : InE (swp e a b) n y ↔ InE e n y := by
  unfold InE swp
  constructor
  · rintro ⟨i, h1, h2⟩
    by_cases c1 : i = a
    · rw [if_pos c1] at h2; exact ⟨b, hb, h2⟩
    · by_cases c2 : i = b
      · rw [if_neg c1, if_pos c2] at h2; exact ⟨a, ha, h2⟩
      · rw [if_neg c1, if_neg c2] at h2; exact ⟨i, h1, h2⟩
  · rintro ⟨i, h1, h2⟩
    by_cases c1 : i = a
    · by_cases c3 : b = a
      · exact ⟨a, ha, by rw [if_pos rfl, c3, ← c1]; exact h2⟩
      · exact ⟨b, hb, by rw [if_neg c3, if_pos rfl, ← c1]; exact h2⟩
    · by_cases c2 : i = b
      · exact ⟨a, ha, by rw [if_pos rfl, ← c2]; exact h2⟩
      · exact ⟨i, h1, by rw [if_neg c1, if_neg c2]; exact h2⟩
theorem swp_inj {a b : Nat} (hab : a < b) (hb : b < n) (h : InjE e n) : InjE (swp e a b) n := by
  intro i j hij hj
  unfold swp
  by_cases c1 : i = a
  · rw [if_pos c1, if_neg (show ¬ j = a by omega)]
    by_cases c2 : j = b
    · rw [if_pos c2]; exact h.ne hb (by omega) (by omega)
    · rw [if_neg c2]; exact h.ne hb hj (fun q => c2 q.symm)
  · rw [if_neg c1]
    by_cases c3 : i = b
    · rw [if_pos c3, if_neg (show ¬ j = a by omega), if_neg (show ¬ j = b by omega)]
      exact h.ne (by omega) hj (by omega)
    · rw [if_neg c3]
      by_cases c4 : j = a
      · rw [if_pos c4]; exact h.ne (by omega) hb c3
      · rw [if_neg c4]
        by_cases c5 : j = b
        · rw [if_pos c5]; exact h.ne (by omega) (by omega) c1
        · rw [if_neg c5]; exact h i j hij hj
theorem change_row {q a b : Nat} {x y : Int32} {B : Nat → Nat → Int32} (hq : isAr false 36 q = true) (ha : a < 36) (hb : b < 36) (hx : B q a = x) (hy : B q b = y) : f_Mo_change (Wd B I sw) q (nI a) (nI b) = some (Wd (up2 (up2 B q a y) q b x) I sw) := by
  unfold f_Mo_change
  rw [gA_W hq ha (by decide), sb, gA_W hq hb (by decide), sb, sA_W hq ha (by decide), sb, sA_W hq hb (by decide), sb, hx, hy]
theorem Mo_sortAll (h : EntM A I n e) (hj : InjE e n) : ∃ A' d, f_Mo_sortAll (Wd A I sw) 64 = some (Wd A' I sw) ∧ EntM A' I n d ∧ SoE d n ∧ (∀ y, InE d n y ↔ InE e n y) ∧ M4F A A' := by
  have h1 := h.1
  have h2 := h.2.1
  have inner : ∀ (i : Nat) (K : Int32 → Hp → Option Hp), i < n → ∀ (k j f : Nat) (B : Nat → Nat → Int32) (d : Nat → Ent), j + k = n → i < j → k < f → M4F A B → EntM B I n d → InjE d n → (∀ y, InE d n y ↔ InE e n y) → (∀ a b, a < i → a < b → b < n → ky (d a) < ky (d b)) → (∀ b, i < b → b < j → ky (d i) < ky (d b)) → ∃ A' d', f_Mo_sortAll_14 64 (nI i) K f (nI j) (Wd B I sw) = K (nI (i + 1)) (Wd A' I sw) ∧ M4F A A' ∧ EntM A' I n d' ∧ InjE d' n ∧ (∀ y, InE d' n y ↔ InE e n y) ∧ (∀ a b, a < i + 1 → a < b → b < n → ky (d' a) < ky (d' b)) := by
    intro i K hi k
    induction k with
    | zero =>
      intro j f B d e1 e2 e3 e4 e5 e6 e7 e8 e9
      obtain ⟨f, rfl⟩ : ∃ g, f = g + 1 := ⟨f - 1, by omega⟩
      have hj : j = n := by omega
      subst hj
      refine ⟨B, d, ?_, e4, e5, e6, e7, fun a b ha hab hb => ?_⟩
      · rw [f_Mo_sortAll_14, gg_64_20, sb, h1, if_pos (Int32.le_refl _), add1]
      · by_cases c : a = i
        · rw [c]; exact e9 b (by omega) hb
        · exact e8 a b (by omega) hab hb
    | succ k ih =>
      intro j f B d e1 e2 e3 e4 e5 e6 e7 e8 e9
      obtain ⟨f, rfl⟩ : ∃ g, f = g + 1 := ⟨f - 1, by omega⟩
      obtain ⟨r1, v1⟩ := e5.2.2 i hi
      obtain ⟨r2, v2⟩ := e5.2.2 j (by omega)
      rw [f_Mo_sortAll_14, gg_64_20, sb, h1, ifc (nI_leI (by omega) (by omega)), if_neg (by omega), Mo_isBefore (by omega) (by omega) r2 r1 v2 v1, sb, add1]
      by_cases c : ky (d j) < ky (d i)
      · obtain ⟨p1, p2, p3, p4⟩ := r1
        obtain ⟨q1, q2, q3, q4⟩ := r2
        rw [if_pos c, if_neg (by decide), rr_64_16, sb, change_row (by decide) (by omega) (by omega) p1 q1, sb, rr_64_17, sb, change_row (q := 75) (x := nI (d i).2.1) (y := nI (d j).2.1) (by decide) (by omega) (by omega) (by rw [up2_n (by decide), up2_n (by decide)]; exact p2) (by rw [up2_n (by decide), up2_n (by decide)]; exact q2), sb, rr_64_18, sb, change_row (q := 76) (x := nI (d i).2.2.1) (y := nI (d j).2.2.1) (by decide) (by omega) (by omega) (by rw [up2_n (by decide), up2_n (by decide), up2_n (by decide), up2_n (by decide)]; exact p3) (by rw [up2_n (by decide), up2_n (by decide), up2_n (by decide), up2_n (by decide)]; exact q3), sb, rr_64_19, sb, change_row (q := 77) (x := nI (d i).2.2.2) (y := nI (d j).2.2.2) (by decide) (by omega) (by omega) (by rw [up2_n (by decide), up2_n (by decide), up2_n (by decide), up2_n (by decide), up2_n (by decide), up2_n (by decide)]; exact p4) (by rw [up2_n (by decide), up2_n (by decide), up2_n (by decide), up2_n (by decide), up2_n (by decide), up2_n (by decide)]; exact q4), sb, sb]
        refine ih (j + 1) f _ (swp d i j) (by omega) (by omega) (by omega) (e4.tr (fun a a1 a2 a3 a4 => ?_)) ⟨h1, h2, fun q hq => ?_⟩ (swp_inj e2 (by omega) e6) (fun y => (swp_in hi (by omega) y).trans (e7 y)) (fun a b ha hab hb => ?_) (fun b hb hb2 => ?_)
        · rw [up2_fn a4, up2_fn a4, up2_fn a3, up2_fn a3, up2_fn a2, up2_fn a2, up2_fn a1, up2_fn a1]
        · unfold swp rowE
          simp only [up2_at, up2_n (show 74 ≠ 75 by decide), up2_n (show 74 ≠ 76 by decide), up2_n (show 74 ≠ 77 by decide), up2_n (show 74 + 1 ≠ 74 by decide), up2_n (show 74 + 1 ≠ 76 by decide), up2_n (show 74 + 1 ≠ 77 by decide), up2_n (show 74 + 2 ≠ 74 by decide), up2_n (show 74 + 2 ≠ 75 by decide), up2_n (show 74 + 2 ≠ 77 by decide), up2_n (show 74 + 3 ≠ 74 by decide), up2_n (show 74 + 3 ≠ 75 by decide), up2_n (show 74 + 3 ≠ 76 by decide), up2_n (show 75 ≠ 74 by decide), up2_n (show 75 ≠ 76 by decide), up2_n (show 75 ≠ 77 by decide), up2_n (show 76 ≠ 74 by decide), up2_n (show 76 ≠ 75 by decide), up2_n (show 76 ≠ 77 by decide), up2_n (show 77 ≠ 74 by decide), up2_n (show 77 ≠ 75 by decide), up2_n (show 77 ≠ 76 by decide)]
          by_cases c1 : q = i
          · simp only [if_pos c1, if_neg (show ¬ q = j by omega)]
            exact ⟨⟨trivial, trivial, trivial, trivial⟩, v2⟩
          · by_cases c2 : q = j
            · simp only [if_neg c1, if_pos c2]
              exact ⟨⟨trivial, trivial, trivial, trivial⟩, v1⟩
            · simp only [if_neg c1, if_neg c2]
              exact e5.2.2 q hq
        · unfold swp
          rw [if_neg (show ¬ a = i by omega), if_neg (show ¬ a = j by omega)]
          by_cases c1 : b = i
          · rw [if_pos c1]; exact e8 a j ha (by omega) (by omega)
          · rw [if_neg c1]
            by_cases c2 : b = j
            · rw [if_pos c2]; exact e8 a i ha (by omega) hi
            · rw [if_neg c2]; exact e8 a b ha hab hb
        · unfold swp
          rw [if_pos rfl, if_neg (show ¬ b = i by omega)]
          by_cases c2 : b = j
          · rw [if_pos c2]; exact c
          · rw [if_neg c2]
            have := e9 b hb (by omega)
            omega
      · rw [if_neg c, if_pos rfl, sb]
        refine ih (j + 1) f B d (by omega) (by omega) (by omega) e4 e5 e6 e7 e8 (fun b hb hb2 => ?_)
        by_cases c2 : b = j
        · rw [c2]
          have : ky (d i) ≠ ky (d j) := fun q => e6 i j e2 (by omega) (ky_inj v1 v2 q)
          omega
        · exact e9 b hb (by omega)
  have key : ∀ (k i f : Nat) (B : Nat → Nat → Int32) (d : Nat → Ent), i + k = n → k < f → M4F A B → EntM B I n d → InjE d n → (∀ y, InE d n y ↔ InE e n y) → (∀ a b, a < i → a < b → b < n → ky (d a) < ky (d b)) → ∃ A' d', f_Mo_sortAll_2 64 f (nI i) (Wd B I sw) = some (Wd A' I sw) ∧ EntM A' I n d' ∧ SoE d' n ∧ (∀ y, InE d' n y ↔ InE e n y) ∧ M4F A A' := by
    intro k
    induction k with
    | zero =>
      intro i f B d e1 e2 e4 e5 e6 e7 e8
      obtain ⟨f, rfl⟩ : ∃ g, f = g + 1 := ⟨f - 1, by omega⟩
      have hi : i = n := by omega
      subst hi
      refine ⟨B, d, ?_, e5, fun a b hab hb => e8 a b (by omega) hab hb, e7, e4⟩
      rw [f_Mo_sortAll_2, gg_64_20, sb, h1, if_pos (Int32.le_refl _)]
    | succ k ih =>
      intro i f B d e1 e2 e4 e5 e6 e7 e8
      obtain ⟨f, rfl⟩ : ∃ g, f = g + 1 := ⟨f - 1, by omega⟩
      obtain ⟨B1, d1, z1, z2, z3, z4, z5, z6⟩ := inner i (fun l1 h => f_Mo_sortAll_2 64 f l1 h) (by omega) (n - (i + 1)) (i + 1) FU B d (by omega) (by omega) (by rw [FU_eq]; omega) e4 e5 e6 e7 e8 (fun b hb hb2 => by omega)
      rw [f_Mo_sortAll_2, gg_64_20, sb, h1, ifc (nI_leI (by omega) (by omega)), if_neg (by omega), add1, z1]
      exact ih (i + 1) f B1 d1 (by omega) (by omega) z2 z3 z4 z5 z6
  unfold f_Mo_sortAll
  rw [kk_64]
  exact key n 0 FU A e (by omega) (by rw [FU_eq]; omega) (fun _ _ _ _ _ => rfl) h hj (fun _ => Iff.rfl) (fun a b ha => by omega)
end MS
