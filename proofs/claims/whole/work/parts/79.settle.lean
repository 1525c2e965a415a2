-- ===== settle =====
def dT (d : Nat → Ent) (n : Nat) : Tre := (n, fun i => (d i).1, fun i => (d i).2.1)
theorem mrk_c {x : Ent} (h : (mrk x true).2.2.1 < 16) : (mrk x true).2.2.1 ≠ 0 := by
  show cz x.2.2.1 true 8 ≠ 0
  unfold cz
  rw [if_pos rfl]
  intro e
  have : x.2.2.1 ||| 8 = 0 := e
  have h2 : 8 ≤ x.2.2.1 ||| 8 := Nat.right_le_or
  omega
/-- no clash: the paths are all different -/
theorem IsMg.dist {S : Ent → Prop} {n : Nat} {d : Nat → Ent} (h : IsMg S n d) (h0 : ∀ i, i < n → (d i).2.2.1 = 0) : ∀ i j, i < j → j < n → (d i).1 < (d j).1 := by
  obtain ⟨h1, h2, e, m, h3, h4, h5⟩ := h
  intro i j hij hj
  have le := So_mono h1 h2 (show i ≤ j by omega) hj
  rcases Nat.lt_or_ge (d i).1 (d j).1 with c | c
  · exact c
  · exfalso
    have eq : (d i).1 = (d j).1 := by omega
    obtain ⟨a, a1, a2⟩ := (h5 (d i)).mp ⟨i, by omega, rfl⟩
    obtain ⟨b, b1, b2⟩ := (h5 (d j)).mp ⟨j, hj, rfl⟩
    have a2 : mrk (e a) (mt e m a) = d i := a2
    have b2 : mrk (e b) (mt e m b) = d j := b2
    have ab : b ≠ a := fun q => by
      subst q
      have := h1 i j hij hj
      rw [← a2, ← b2] at this
      omega
    have pa : (mrk (e a) (mt e m a)).1 = (d i).1 := by rw [a2]
    have pa : (e a).1 = (d i).1 := pa
    have pb : (mrk (e b) (mt e m b)).1 = (d j).1 := by rw [b2]
    have pb : (e b).1 = (d j).1 := pb
    have ma : mt e m a = true := mt_iff.mpr ⟨b, b1, ab, by rw [pa, pb, eq]⟩
    rw [ma] at a2
    have z := h0 i (by omega)
    have v := (h2 i (by omega)).2.2.1
    rw [← a2] at z v
    exact mrk_c v z
theorem dT_V {d : Nat → Ent} {n : Nat} (hn : n ≤ 12) (hv : ∀ i, i < n → VE (d i)) (hs : ∀ i j, i < j → j < n → (d i).1 < (d j).1) {k : Nat} (hk : k ≤ n) : VT (dT d k) := ⟨Nat.le_trans hk hn, fun i hi => by have hi : i < k := hi; exact ⟨(hv i (by omega)).1, (hv i (by omega)).2.1⟩, fun i j hij hj => by have hj : j < k := hj; exact hs i j hij (by omega)⟩
theorem dT_pos {d : Nat → Ent} {n : Nat} (hs : ∀ i j, i < j → j < n → (d i).1 < (d j).1) {k : Nat} (hk : k < n) : pos (dT d k) (d k).1 = k := by
  unfold pos
  exact cnt_split k (Nat.le_refl _) (fun j hj => decide_eq_true (hs j k hj hk)) (fun j a b => absurd a (by have b : j < k := b; omega))
theorem dT_lay {A I : Nat → Nat → Int32} {r : Nat} {d : Nat → Ent} {n : Nat} (hs : ∀ i j, i < j → j < n → (d i).1 < (d j).1) {k : Nat} (hk : k < n) (hn : n ≤ 12) (h : TreeIs A I r (layT (dT d k) (d k).1 (d k).2.1)) : TreeIs A I r (dT d (k + 1)) := by
  have e := dT_pos hs hk
  unfold layT isThere at h
  rw [e, if_neg (by rw [decide_eq_true_eq]; intro w; exact absurd w.1 (Nat.lt_irrefl k))] at h
  refine ⟨h.1, by show k + 1 ≤ 12; omega, fun i hi => ?_⟩
  have hi : i < k + 1 := hi
  have q := h.2.2 i hi
  dsimp only at q
  by_cases c : i < k
  · rw [if_pos c, if_pos c] at q; exact q
  · have : i = k := by omega
    subst this
    rw [if_neg c, if_pos rfl, if_neg c, if_pos rfl] at q; exact q
section O15
variable {A I : Nat → Nat → Int32} {sw : Bool} {pn : Nat} {ps : Nat → Nat} {T : Trs} {K : Nat → Option Trs} {n : Nat} {d : Nat → Ent}
theorem Merge_writeTo (h : EntC A I n d) (hn : n ≤ 12) (hs : ∀ i j, i < j → j < n → (d i).1 < (d j).1) : ∃ A' I', f_Merge_writeTo (Wd A I sw) 56 4 = some (Wd A' I' sw) ∧ TreeIs A' I' 4 (dT d n) ∧ TF 4 A I A' I' := by
  have hv : ∀ i, i < n → VE (d i) := fun i hi => (h.2.2 i hi).2
  have key : ∀ (k i f : Nat) (B J : Nat → Nat → Int32), i + k = n → k < f → TreeIs B J 4 (dT d i) → TF 4 A I B J → ∃ A' I', f_Merge_writeTo_6 56 4 f (nI i) (Wd B J sw) = some (Wd A' I' sw) ∧ TreeIs A' I' 4 (dT d n) ∧ TF 4 A I A' I' := by
    intro k
    induction k with
    | zero =>
      intro i f B J h1 h2 hT hF
      obtain ⟨g, rfl⟩ : ∃ g, f = g + 1 := ⟨f - 1, by omega⟩
      have hi : i = n := by omega
      subst hi
      refine ⟨B, J, ?_, hT, hF⟩
      rw [f_Merge_writeTo_6, gg_56_4, sb, hF.2 56 (by decide), h.1, if_pos (Int32.le_refl _)]
    | succ k ih =>
      intro i f B J h1 h2 hT hF
      obtain ⟨g, rfl⟩ : ∃ g, f = g + 1 := ⟨f - 1, by omega⟩
      obtain ⟨⟨r1, r2, -, -⟩, -⟩ := h.2.2 i (by omega)
      have r2 : A 58 i = nI (d i).2.1 := r2
      obtain ⟨C, L, z1, z2, z3⟩ := Tree_lay (sw := sw) (c := (d i).2.1) (by decide) hT (dT_V hn hv hs (show i ≤ n by omega)) (hv i (by omega)).1 (Or.inr (show i < 12 by omega))
      obtain ⟨A', I', w1, w2, w3⟩ := ih (i + 1) g C L (by omega) (by omega) (dT_lay hs (by omega) hn z2) (hF.tr z3)
      refine ⟨A', I', ?_, w2, w3⟩
      rw [f_Merge_writeTo_6, gg_56_4, sb, hF.2 56 (by decide), h.1, ifc (nI_leI (by omega) (by omega)), if_neg (by omega), rr_56_0, sb, ga_57 (by omega), sb, hF.1 57 (by decide) (by decide), r1, rr_56_1, sb, ga_58 (by omega), sb, hF.1 58 (by decide) (by decide), r2, z1, sb, add1]
      dsimp only
      exact w1
  unfold f_Merge_writeTo
  rw [kk_56, Tree_clear (by decide), sb]
  exact key n 0 FU A (up2 I 4 2 (nI 0)) (by omega) (by rw [FU_eq]; omega) ⟨up2_s _ _ _ _, Nat.zero_le 12, fun i hi => absurd hi (Nat.not_lt_zero i)⟩ ⟨fun _ _ _ => rfl, fun a ha => up2_fn ha⟩
theorem Mo_settle_43 (h : EntM A I n d) (hn : n ≤ 12) {t : Nat} (ht : t < 3) (kk : Int32 → Hp → Option (Int32 × Hp)) : ∀ (k j f : Nat) (B : Nat → Nat → Int32), j + k = n → k < f → MFr t A B → B 67 t = nI n → (∀ u, u < j → B 65 (12 * t + u) = nI (d u).1 ∧ B 66 (12 * t + u) = nI (d u).2.1) → ∃ A', f_Mo_settle_43 64 (nI t) kk f (nI j) (Wd B I sw) = kk (nI (t + 1)) (Wd A' I sw) ∧ MFr t A A' ∧ MTree A' t (dT d n) := by
  intro k
  induction k with
  | zero =>
    intro j f B h1 h2 hF h67 hlo
    obtain ⟨g, rfl⟩ : ∃ g, f = g + 1 := ⟨f - 1, by omega⟩
    have hj : j = n := by omega
    subst hj
    refine ⟨B, ?_, hF, h67, hn, fun u hu => hlo u hu⟩
    rw [f_Mo_settle_43, gg_64_20, sb, h.1, if_pos (Int32.le_refl _), add1]
  | succ k ih =>
    intro j f B h1 h2 hF h67 hlo
    obtain ⟨g, rfl⟩ : ∃ g, f = g + 1 := ⟨f - 1, by omega⟩
    obtain ⟨⟨r1, r2, -, -⟩, -⟩ := h.2.2 j (by omega)
    have r1 : B 74 j = nI (d j).1 := by rw [hF.1 74 (by decide) (by decide) (by decide)]; exact r1
    have r2 : B 75 j = nI (d j).2.1 := by rw [hF.1 75 (by decide) (by decide) (by decide)]; exact r2
    rw [f_Mo_settle_43, gg_64_20, sb, h.1, ifc (nI_leI (by omega) (by omega)), if_neg (by omega)]
    simp only [mix, add1, rr_64_0, rr_64_1, rr_64_16, rr_64_17, sb, ga_74 (show j < 36 by omega), sa_65 (show 12 * t + j < 36 by omega), ga_75 (show j < 36 by omega), sa_66 (show 12 * t + j < 36 by omega), up2_n (show 75 ≠ 65 by omega), r1, r2]
    refine ih (j + 1) g _ (by omega) (by omega) ⟨fun a a1 a2 a3 => ?_, fun u hu => ?_, fun u hu => ?_⟩ ?_ (fun u hu => ?_)
    · rw [up2_fn a2, up2_fn a1]
      exact hF.1 a a1 a2 a3
    · have := hF.2.1 u hu
      simp only [up2_n (show 65 ≠ 66 by omega), up2_n (show 66 ≠ 65 by omega), up2_at, if_neg (show ¬ u = 12 * t + j by omega)]
      exact this
    · rw [up2_n (by omega), up2_n (by omega)]
      exact hF.2.2 u hu
    · rw [up2_n (by omega), up2_n (by omega)]
      exact h67
    · simp only [up2_n (show 65 ≠ 66 by omega), up2_n (show 66 ≠ 65 by omega), up2_at]
      by_cases c1 : u = j
      · subst c1
        simp
      · simp only [if_neg (show ¬ 12 * t + u = 12 * t + j by omega)]
        exact hlo u (by omega)
theorem EntM.frm {t : Nat} {A' : Nat → Nat → Int32} (h : EntM A I n d) (f : MFr t A A') : EntM A' I n d := h.kept (f.1 74 (by decide) (by decide) (by decide)) (f.1 75 (by decide) (by decide) (by decide)) (f.1 76 (by decide) (by decide) (by decide)) (f.1 77 (by decide) (by decide) (by decide)) rfl
theorem Mo_settle_step (h : EntM A I n d) (hn : n ≤ 12) {t : Nat} (ht : t < 3) (f : Nat) : ∃ A', f_Mo_settle_26 64 (f + 1) (nI t) (Wd A I sw) = f_Mo_settle_26 64 f (nI (t + 1)) (Wd A' I sw) ∧ MFr t A A' ∧ MTree A' t (dT d n) := by
  have f0 : MFr t A (up2 A 67 t (nI n)) := ⟨fun a a1 a2 a3 => up2_fn a3, fun u hu => ⟨up2_n (by decide), up2_n (by decide)⟩, fun u hu => up2_m hu⟩
  obtain ⟨A', z1, z2, z3⟩ := Mo_settle_43 (sw := sw) h hn ht (fun l1 h => f_Mo_settle_26 64 f l1 h) n 0 FU (up2 A 67 t (nI n)) (by omega) (by rw [FU_eq]; omega) f0 (up2_s _ _ _ _) (fun u hu => absurd hu (Nat.not_lt_zero u))
  refine ⟨A', ?_, z2, z3⟩
  rw [f_Mo_settle_26, ifc (show (3 : Int32) ≤ nI t ↔ 3 ≤ t from nI_leI (by decide) (by omega)), if_neg (by omega), rr_64_2, sb, gg_64_20, sb, h.1, sa_67 ht, sb]
  exact z1
theorem Mo_settle_26 (h : EntM A I n d) (hn : n ≤ 12) (hm : ModRel A I pn ps T K) : ∃ A', f_Mo_settle_26 64 FU (0 : Int32) (Wd A I sw) = some (nI n, Wd A' I sw) ∧ ModRel A' I pn ps (dT d n, dT d n, dT d n, T.2.2.2) K ∧ RFr A I A' I := by
  obtain ⟨A1, a1, a2, a3⟩ := Mo_settle_step (sw := sw) h hn (t := 0) (by decide) 3999
  have h1 := h.frm a2
  obtain ⟨A2, b1, b2, b3⟩ := Mo_settle_step (sw := sw) h1 hn (t := 1) (by decide) 3998
  have h2 := h1.frm b2
  obtain ⟨A3, c1, c2, c3⟩ := Mo_settle_step (sw := sw) h2 hn (t := 2) (by decide) 3997
  have h3 := h2.frm c2
  obtain ⟨m1, f1⟩ := hm.set (t := 0) (by decide) a2 a3
  obtain ⟨m2, f2⟩ := m1.set (t := 1) (by decide) b2 b3
  obtain ⟨m3, f3⟩ := m2.set (t := 2) (by decide) c2 c3
  refine ⟨A3, ?_, m3, (f1.tr f2).tr f3⟩
  rw [show FU = 3999 + 1 from rfl, show (0 : Int32) = nI 0 from rfl, a1, show (3999 : Nat) = 3998 + 1 from rfl, b1, show (3998 : Nat) = 3997 + 1 from rfl, c1, show (3997 : Nat) = 3996 + 1 from rfl, f_Mo_settle_26, if_pos (show (3 : Int32) ≤ nI (2 + 1) by decide), gg_64_20, sb, h.1]
end O15
