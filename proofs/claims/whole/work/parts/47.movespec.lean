-- ===== votes and where a folder went =====
def goT (Y : Tre) (s : Pst) (i G : Nat) : Bool := match s.1 i with
  | some j => decide (Y.2.1 j / 10 = G)
  | none => false
def vts (X Y : Tre) (s : Pst) (F G : Nat) : Nat := cnt (fun i => decide (X.2.1 i / 10 = F) && goT Y s i G) X.1
def lies (X : Tre) (F : Nat) : Option Nat := fnd (fun j => decide (X.2.1 j / 10 = F)) 0 X.1
def IsMv (v : Nat → Nat) (g : Nat) : Prop := 0 < v g ∧ ∀ c, c < 445 → c ≠ g → v c < v g
def isMv (v : Nat → Nat) (g : Nat) : Bool := decide (0 < v g) && (fnd (fun c => !decide (c = g) && decide (v g ≤ v c)) 0 445).isNone
theorem isMv_iff {v : Nat → Nat} {g : Nat} : isMv v g = true ↔ IsMv v g := by
  unfold isMv IsMv
  rw [Bool.and_eq_true, decide_eq_true_iff, Option.isNone_iff_eq_none]
  constructor
  · rintro ⟨h1, h2⟩
    refine ⟨h1, fun c hc hne => ?_⟩
    have := fnd_none 445 0 h2 c (Nat.zero_le _) (by omega)
    simp [hne] at this
    exact this
  · rintro ⟨h1, h2⟩
    refine ⟨h1, fnd_no (fun c _ hc => ?_)⟩
    by_cases e : c = g
    · simp [e]
    · have := h2 c (by omega) e
      simp [e]
      exact this
def mvO (v : Nat → Nat) : Option Nat := fnd (isMv v) 0 445
def mv (X Y : Tre) (s : Pst) (F : Nat) : Option Nat := if lies Y F = none then mvO (vts X Y s F) else none
theorem IsMv_uniq {v : Nat → Nat} {g d : Nat} (h : IsMv v g) (e : IsMv v d) (hg : g < 445) (hd : d < 445) : g = d := by
  by_cases c : g = d
  · exact c
  · have h1 := h.2 d hd (fun q => c q.symm)
    have h2 := e.2 g hg c
    omega
theorem mvO_some {v : Nat → Nat} {g : Nat} (h : IsMv v g) (hg : g < 445) : mvO v = some g := by
  refine fnd_eq (Nat.zero_le _) (by omega) (isMv_iff.mpr h) (fun t _ ht => ?_)
  rw [Bool.eq_false_iff]
  intro q
  have := IsMv_uniq h (isMv_iff.mp q) hg (by omega)
  omega
theorem mvO_none {v : Nat → Nat} (h : ∀ g, g < 445 → ¬ IsMv v g) : mvO v = none := fnd_no (fun t _ ht => by rw [Bool.eq_false_iff]; exact fun q => h t (by omega) (isMv_iff.mp q))
theorem mvO_is {v : Nat → Nat} {g : Nat} (h : mvO v = some g) : g < 445 ∧ IsMv v g := by
  obtain ⟨-, h2, h3, -⟩ := fnd_some 445 0 g h
  exact ⟨by omega, isMv_iff.mp h3⟩
/-- what a search for the most voted knows after the candidates S -/
def Am (v : Nat → Nat) (S : Nat → Prop) (b g : Nat) (u : Bool) : Prop := (b = 0 ∧ u = false ∧ ∀ c, S c → v c = 0) ∨ (0 < b ∧ v g = b ∧ S g ∧ (∀ c, S c → v c ≤ b) ∧ (u = true ↔ ∀ c, S c → c ≠ g → v c < b))
theorem Am_more {v : Nat → Nat} {S : Nat → Prop} {b g d : Nat} {u : Bool} (h : Am v S b g u) (hd : b < v d) : Am v (fun c => S c ∨ c = d) (v d) d true := by
  refine Or.inr ⟨by omega, rfl, Or.inr rfl, fun c hc => ?_, ⟨fun _ c hc hne => ?_, fun _ => rfl⟩⟩
  · rcases hc with hc | rfl
    · rcases h with ⟨h1, h2, h3⟩ | ⟨h1, h2, h3, h4, h5⟩
      · have := h3 c hc; omega
      · have := h4 c hc; omega
    · exact Nat.le_refl _
  · rcases hc with hc | rfl
    · rcases h with ⟨h1, h2, h3⟩ | ⟨h1, h2, h3, h4, h5⟩
      · have := h3 c hc; omega
      · have := h4 c hc; omega
    · exact absurd rfl hne
theorem Am_less {v : Nat → Nat} {S : Nat → Prop} {b g d : Nat} {u : Bool} (h : Am v S b g u) (hd : v d < b ∨ v d = 0) : Am v (fun c => S c ∨ c = d) b g u := by
  rcases h with ⟨h1, h2, h3⟩ | ⟨h1, h2, h3, h4, h5⟩
  · refine Or.inl ⟨h1, h2, fun c hc => ?_⟩
    rcases hc with hc | rfl
    · exact h3 c hc
    · omega
  · refine Or.inr ⟨h1, h2, Or.inl h3, fun c hc => ?_, h5.trans ⟨fun q c hc hne => ?_, fun q c hc hne => q c (Or.inl hc) hne⟩⟩
    · rcases hc with hc | rfl
      · exact h4 c hc
      · omega
    · rcases hc with hc | rfl
      · exact q c hc hne
      · omega
theorem Am_same {v : Nat → Nat} {S : Nat → Prop} {b g : Nat} {u : Bool} (h : Am v S b g u) (hb : 0 < b) : Am v (fun c => S c ∨ c = g) b g u := by
  rcases h with ⟨h1, h2, h3⟩ | ⟨h1, h2, h3, h4, h5⟩
  · omega
  · refine Or.inr ⟨h1, h2, Or.inl h3, fun c hc => ?_, h5.trans ⟨fun q c hc hne => ?_, fun q c hc hne => q c (Or.inl hc) hne⟩⟩
    · rcases hc with hc | rfl
      · exact h4 c hc
      · omega
    · rcases hc with hc | rfl
      · exact q c hc hne
      · exact absurd rfl hne
theorem Am_tie {v : Nat → Nat} {S : Nat → Prop} {b g d : Nat} {u : Bool} (h : Am v S b g u) (hb : 0 < b) (hd : v d = b) (hne : d ≠ g) : Am v (fun c => S c ∨ c = d) b g false := by
  rcases h with ⟨h1, h2, h3⟩ | ⟨h1, h2, h3, h4, h5⟩
  · omega
  · refine Or.inr ⟨h1, h2, Or.inl h3, fun c hc => ?_, ⟨fun q => (by cases q), fun q => ?_⟩⟩
    · rcases hc with hc | rfl
      · exact h4 c hc
      · omega
    · have := q d (Or.inr rfl) hne
      omega
theorem Am_skip {v : Nat → Nat} {S S' : Nat → Prop} {b g : Nat} {u : Bool} (h : Am v S b g u) (e : ∀ c, S c ↔ S' c) : Am v S' b g u := by
  have : S = S' := by funext c; exact propext (e c)
  rw [← this]
  exact h
theorem Am_end {v : Nat → Nat} {S : Nat → Prop} {b g : Nat} {u : Bool} (h : Am v S b g u) (hS : ∀ c, 0 < v c → S c) (hB : ∀ c, S c → c < 445) : (if u = true then some g else none) = mvO v := by
  rcases h with ⟨h1, h2, h3⟩ | ⟨h1, h2, h3, h4, h5⟩
  · rw [h2, if_neg (by decide), mvO_none (fun d _ q => ?_)]
    have h6 := q.1
    have := h3 d (hS d h6)
    omega
  · have hgb := hB g h3
    cases u with
    | true =>
      have h6 := h5.mp rfl
      rw [if_pos rfl, mvO_some ⟨by omega, fun c hc hne => ?_⟩ hgb]
      by_cases z : 0 < v c
      · have := h6 c (hS c z) hne; omega
      · omega
    | false =>
      rw [if_neg (by decide), mvO_none (fun d hd q => ?_)]
      have e1 : d = g := by
        by_cases e : d = g
        · exact e
        · have := q.2 g hgb (fun z => e z.symm)
          have := h4 d (hS d q.1)
          omega
      subst e1
      have : false = true := h5.mpr (fun c hc hne => by have := q.2 c (hB c hc) hne; omega)
      cases this
section VS
variable {X Y : Tre} {s : Pst}
theorem cnt_pos {q : Nat → Bool} : ∀ n, 0 < cnt q n → ∃ i, i < n ∧ q i = true := by
  intro n
  induction n with
  | zero => intro h; exact absurd h (Nat.lt_irrefl 0)
  | succ n ih =>
    intro h
    rw [cnt] at h
    by_cases c : q n = true
    · exact ⟨n, by omega, c⟩
    · have : 0 < cnt q n := by
        rw [if_neg c] at h
        omega
      obtain ⟨i, h1, h2⟩ := ih this
      exact ⟨i, by omega, h2⟩
theorem cnt_ge1 {q : Nat → Bool} {i : Nat} : ∀ n, i < n → q i = true → 0 < cnt q n := by
  intro n
  induction n with
  | zero => intro h; omega
  | succ n ih =>
    intro h1 h2
    rw [cnt]
    by_cases c : i = n
    · rw [← c, if_pos h2]; omega
    · have := ih (by omega) h2; omega
theorem vts_pos {F G : Nat} (h : 0 < vts X Y s F G) : ∃ i j, i < X.1 ∧ X.2.1 i / 10 = F ∧ s.1 i = some j ∧ Y.2.1 j / 10 = G := by
  obtain ⟨i, h1, h2⟩ := cnt_pos X.1 h
  rw [Bool.and_eq_true] at h2
  obtain ⟨h3, h4⟩ := h2
  unfold goT at h4
  split at h4
  · rename_i j e
    exact ⟨i, j, h1, of_decide_eq_true h3, e, of_decide_eq_true h4⟩
  · cases h4
theorem vts_in {i j : Nat} (hi : i < X.1) (e : s.1 i = some j) : 0 < vts X Y s (X.2.1 i / 10) (Y.2.1 j / 10) := by
  refine cnt_ge1 X.1 hi ?_
  unfold goT
  simp [e]
theorem vts_le {F G : Nat} : vts X Y s F G ≤ X.1 := cnt_le _ _
theorem VT.f {i : Nat} (h : VT X) (hi : i < X.1) : vF (X.2.1 i / 10) = true ∧ X.2.1 i / 10 ≤ 444 := by
  have h1 := (h.2.1 i hi).1
  unfold vP at h1
  rw [Bool.and_eq_true] at h1
  exact ⟨h1.1, vF_le h1.1⟩
theorem mv_is {F g : Nat} (hw : WFp X.1 Y.1 s) (h : mv X Y s F = some g) : ∃ i j, i < X.1 ∧ X.2.1 i / 10 = F ∧ j < Y.1 ∧ Y.2.1 j / 10 = g := by
  unfold mv at h
  split at h
  · obtain ⟨h1, h2⟩ := mvO_is h
    obtain ⟨i, j, a1, a2, a3, a4⟩ := vts_pos h2.1
    exact ⟨i, j, a1, a2, (hw.1 i j a3).2, a4⟩
  · cases h
theorem mv_ok {F g : Nat} (hw : WFp X.1 Y.1 s) (v0 : VT X) (v1 : VT Y) (h : mv X Y s F = some g) : vF F = true ∧ F ≤ 444 ∧ vF g = true ∧ g ≤ 444 := by
  obtain ⟨i, j, a1, a2, a3, a4⟩ := mv_is hw h
  have b1 := v0.f a1
  have b2 := v1.f a3
  rw [a2] at b1
  rw [a4] at b2
  exact ⟨b1.1, b1.2, b2.1, b2.2⟩
theorem lies_none {F : Nat} : lies X F = none ↔ ∀ i, i < X.1 → X.2.1 i / 10 ≠ F := by
  unfold lies
  constructor
  · intro h i hi
    have := fnd_none X.1 0 h i (Nat.zero_le _) (by omega)
    simpa using this
  · intro h
    exact fnd_no (fun t _ ht => by simpa using h t (by omega))
end VS
section VM
variable {A I : Nat → Nat → Int32} {sw : Bool} {t : Nat} {X Y : Tre} {s : Pst}
-- the reference's votes
theorem Mo_votesOf (ht : t < 3) (h0 : MTree A 0 X) (h1 : MTree A t Y) (v0 : VT X) (v1 : VT Y) (hw : WFp X.1 Y.1 s) (h : MPairs A t s) {F G : Nat} (hF : F < 2 ^ 31) (hG : G < 2 ^ 31) : f_Mo_votesOf (Wd A I sw) 64 (nI t) (nI F) (nI G) = some (nI (vts X Y s F G)) := by
  have hn := h0.2.1
  have hn1 := h1.2.1
  have key : ∀ (k i f : Nat), i + k = X.1 → k < f → f_Mo_votesOf_6 (Wd A I sw) 64 (nI t) (nI F) (nI G) f (nI (cnt (fun i => decide (X.2.1 i / 10 = F) && goT Y s i G) i)) (nI i) = some (nI (vts X Y s F G)) := by
    intro k
    induction k with
    | zero =>
      intro i f e1 e2
      obtain ⟨g, rfl⟩ : ∃ g, f = g + 1 := ⟨f - 1, by omega⟩
      have hi : i = X.1 := by omega
      subst hi
      rw [f_Mo_votesOf_6, rr_64_2, sb, Mo_n0 h0, sb, if_pos (Int32.le_refl _)]
      rfl
    | succ k ih =>
      intro i f e1 e2
      obtain ⟨g, rfl⟩ : ∃ g, f = g + 1 := ⟨f - 1, by omega⟩
      have hp := v0.p (i := i) (by omega)
      have hpF := (v0.f (i := i) (by omega)).2
      have e0 : f_Mo_folderAt (Wd A I sw) 64 (0 : Int32) (nI i) = some (nI (X.2.1 i / 10)) := Mo_folderAt (t := 0) (by decide) h0 v0 (by omega)
      rw [f_Mo_votesOf_6, rr_64_2, sb, Mo_n0 h0, sb, ifc (nI_leI (by omega) (by omega)), if_neg (by omega), rr_64_11, sb, mix, ga_69 (by omega), sb, (h i (by omega)).1, e0, sb, ifc (nI_eq (by omega) hF), add1]
      have fin : ∀ (x : Bool), (decide (X.2.1 i / 10 = F) && goT Y s i G) = x → f_Mo_votesOf_6 (Wd A I sw) 64 (nI t) (nI F) (nI G) g (nI (cnt (fun i => decide (X.2.1 i / 10 = F) && goT Y s i G) i) + (if x = true then (1 : Int32) else (0 : Int32))) (nI (i + 1)) = some (nI (vts X Y s F G)) := by
        intro x hx
        have := ih (i + 1) g (by omega) (by omega)
        rw [cnt, hx] at this
        cases x with
        | true => rw [if_pos rfl, add1]; rw [if_pos rfl] at this; exact this
        | false => rw [if_neg (by decide), show nI (cnt (fun i => decide (X.2.1 i / 10 = F) && goT Y s i G) i) + (0 : Int32) = nI (cnt (fun i => decide (X.2.1 i / 10 = F) && goT Y s i G) i) from nI_add _ 0]; rw [if_neg (by decide)] at this; exact this
      by_cases c1 : X.2.1 i / 10 = F
      · rw [if_pos c1]
        cases e : s.1 i with
        | none =>
          rw [o2i_n, if_pos m6_lt0, sb]
          exact fin false (by unfold goT; rw [e]; simp)
        | some j =>
          have hj := (hw.1 i j e).2
          have hpj := (v1.f hj).2
          rw [o2i_s, if_neg (neg_lt0 (by omega)), Mo_folderAt ht h1 v1 hj, sb, ifc (nI_eq (by omega) hG)]
          by_cases c2 : Y.2.1 j / 10 = G
          · rw [if_pos c2, sb]
            exact fin true (by unfold goT; rw [e]; simp [c1, c2])
          · rw [if_neg c2, sb]
            exact fin false (by unfold goT; rw [e]; simp [c2])
      · rw [if_neg c1, sb]
        exact fin false (by simp [c1])
  unfold f_Mo_votesOf
  rw [kk_64]
  exact key X.1 0 FU (by omega) (by rw [FU_eq]; omega)
theorem Mo_liesIn (ht : t < 3) (h1 : MTree A t Y) (v1 : VT Y) {F : Nat} (hF : F < 2 ^ 31) : f_Mo_liesIn (Wd A I sw) 64 (nI t) (nI F) = some (if lies Y F = none then 0 else 1) := by
  have hn1 := h1.2.1
  have k1 : ∀ (k i f : Nat), i + k = Y.1 → k < f → f_Mo_liesIn_5 (Wd A I sw) 64 (nI t) (nI F) f (1 : Int32) (nI i) = some 1 := by
    intro k
    induction k with
    | zero =>
      intro i f e1 e2
      obtain ⟨g, rfl⟩ : ∃ g, f = g + 1 := ⟨f - 1, by omega⟩
      rw [f_Mo_liesIn_5, rr_64_2, sb, ga_67 ht, sb, h1.1, ifc (nI_leI (by omega) (by omega)), if_pos (by omega), rz_1]
    | succ k ih =>
      intro i f e1 e2
      obtain ⟨g, rfl⟩ : ∃ g, f = g + 1 := ⟨f - 1, by omega⟩
      rw [f_Mo_liesIn_5, rr_64_2, sb, ga_67 ht, sb, h1.1, ifc (nI_leI (by omega) (by omega)), if_neg (by omega), if_neg (by decide), sb, add1]
      exact ih (i + 1) g (by omega) (by omega)
  have k0 : ∀ (k i f : Nat), i + k = Y.1 → k < f → f_Mo_liesIn_5 (Wd A I sw) 64 (nI t) (nI F) f (0 : Int32) (nI i) = some (if fnd (fun j => decide (Y.2.1 j / 10 = F)) i k = none then 0 else 1) := by
    intro k
    induction k with
    | zero =>
      intro i f e1 e2
      obtain ⟨g, rfl⟩ : ∃ g, f = g + 1 := ⟨f - 1, by omega⟩
      rw [f_Mo_liesIn_5, rr_64_2, sb, ga_67 ht, sb, h1.1, ifc (nI_leI (by omega) (by omega)), if_pos (by omega), rz_0]
      simp [fnd]
    | succ k ih =>
      intro i f e1 e2
      obtain ⟨g, rfl⟩ : ∃ g, f = g + 1 := ⟨f - 1, by omega⟩
      have hpi := (v1.f (i := i) (by omega)).2
      rw [f_Mo_liesIn_5, rr_64_2, sb, ga_67 ht, sb, h1.1, ifc (nI_leI (by omega) (by omega)), if_neg (by omega), if_pos rfl, Mo_folderAt ht h1 v1 (by omega), sb, ifc (nI_eq (by omega) hF), fnd, add1]
      by_cases c : Y.2.1 i / 10 = F
      · rw [if_pos c, sb, k1 k (i + 1) g (by omega) (by omega)]
        simp [c]
      · rw [if_neg c, sb, ih (i + 1) g (by omega) (by omega)]
        simp [c]
  unfold f_Mo_liesIn
  rw [kk_64]
  exact k0 Y.1 0 FU (by omega) (by rw [FU_eq]; omega)
theorem Mo_movedOf (ht : t < 3) (h0 : MTree A 0 X) (h1 : MTree A t Y) (v0 : VT X) (v1 : VT Y) (hw : WFp X.1 Y.1 s) (h : MPairs A t s) {F : Nat} (hF : F < 2 ^ 31) : f_Mo_movedOf (Wd A I sw) 64 (nI t) (nI F) = some (o2i (mv X Y s F)) := by
  have hn := h0.2.1
  have hn1 := h1.2.1
  have eL0 : f_Mo_liesIn (Wd A I sw) 64 (0 : Int32) (nI F) = some (if lies X F = none then 0 else 1) := Mo_liesIn (t := 0) (by decide) h0 v0 hF
  have key : ∀ (k j f b g : Nat) (u : Bool), j + k = Y.1 → k < f → b ≤ 12 → g ≤ 444 → Am (vts X Y s F) (fun c => ∃ q, q < j ∧ Y.2.1 q / 10 = c) b g u → f_Mo_movedOf_12 (Wd A I sw) 64 (nI t) (nI F) f (if b = 0 then (-6 : Int32) else nI g) (nI b) (if u = true then (1 : Int32) else (0 : Int32)) (nI j) = some (o2i (mv X Y s F)) := by
    intro k
    induction k with
    | zero =>
      intro j f b g u e1 e2 e3 e3' e4
      obtain ⟨n, rfl⟩ : ∃ n, f = n + 1 := ⟨f - 1, by omega⟩
      have hj : j = Y.1 := by omega
      subst hj
      have hE := Am_end e4 (fun c hc => by obtain ⟨i, q, a1, a2, a3, a4⟩ := vts_pos hc; exact ⟨q, (hw.1 i q a3).2, a4⟩) (fun c hc => by obtain ⟨q, a1, a2⟩ := hc; have := (v1.f a1).2; omega)
      rw [f_Mo_movedOf_12, rr_64_2, sb, ga_67 ht, sb, h1.1, if_pos (Int32.le_refl _), eL0, sb, Mo_liesIn ht h1 v1 hF, sb]
      have hb0 : u = true → ¬ b = 0 := by
        intro hu hb
        rcases e4 with ⟨a1, a2, a3⟩ | ⟨a1, a2, a3, a4, a5⟩
        · rw [hu] at a2; cases a2
        · omega
      cases u with
      | false =>
        rw [if_pos (show (if false = true then (1 : Int32) else (0 : Int32)) = 0 by decide), sb]
        rw [if_neg (by decide)] at hE
        unfold mv
        rw [← hE, ite_self]
        rfl
      | true =>
        rw [if_pos rfl, if_neg (by decide), if_neg (hb0 rfl)]
        rw [if_pos rfl] at hE
        unfold mv
        by_cases c1 : lies X F = none
        · rw [if_pos c1, if_pos rfl, sb]
          exfalso
          rcases e4 with ⟨a1, a2, a3⟩ | ⟨a1, a2, a3, a4, a5⟩
          · cases a2
          · obtain ⟨i, q, x1, x2, x3, x4⟩ := vts_pos (show 0 < vts X Y s F g by omega)
            exact lies_none.mp c1 i x1 x2
        · rw [if_neg c1, if_neg (by decide)]
          by_cases c2 : lies Y F = none
          · rw [if_pos c2, if_pos c2, if_pos rfl, sb, ← hE, o2i_s]
          · rw [if_neg c2, if_neg c2, if_neg (by decide), sb, o2i_n]
    | succ k ih =>
      intro j f b g u e1 e2 e3 e3' e4
      obtain ⟨n, rfl⟩ : ∃ n, f = n + 1 := ⟨f - 1, by omega⟩
      have hpj := (v1.f (i := j) (by omega)).2
      have hv := vts_le (X := X) (Y := Y) (s := s) (F := F) (G := Y.2.1 j / 10)
      have hS : ∀ c, ((∃ q, q < j ∧ Y.2.1 q / 10 = c) ∨ c = Y.2.1 j / 10) ↔ ∃ q, q < j + 1 ∧ Y.2.1 q / 10 = c := by
        intro c
        constructor
        · rintro (⟨q, a1, a2⟩ | a)
          · exact ⟨q, by omega, a2⟩
          · exact ⟨j, by omega, a.symm⟩
        · rintro ⟨q, a1, a2⟩
          by_cases c : q = j
          · subst c; exact Or.inr a2.symm
          · exact Or.inl ⟨q, by omega, a2⟩
      rw [f_Mo_movedOf_12, rr_64_2, sb, ga_67 ht, sb, h1.1, ifc (nI_leI (by omega) (by omega)), if_neg (by omega), Mo_folderAt ht h1 v1 (by omega), sb, Mo_votesOf ht h0 h1 v0 v1 hw h hF (by omega), sb, ifc (nI_leI (by omega) (by omega)), add1]
      by_cases c1 : vts X Y s F (Y.2.1 j / 10) ≤ b
      · rw [if_pos c1, ifc (nI_eq (by omega) (by omega))]
        by_cases c2 : vts X Y s F (Y.2.1 j / 10) = b
        · rw [if_pos c2, ifc (le0 (by omega))]
          by_cases c3 : vts X Y s F (Y.2.1 j / 10) ≤ 0
          · rw [if_pos c3, sb]
            dsimp only
            exact ih (j + 1) n b g u (by omega) (by omega) e3 e3' (Am_skip (Am_less e4 (Or.inr (by omega))) hS)
          · rw [if_neg c3, if_neg (show ¬ b = 0 by omega), ifc (nI_eq (by omega) (by omega))]
            by_cases c4 : Y.2.1 j / 10 = g
            · rw [if_pos c4, sb]
              dsimp only
              have := ih (j + 1) n b g u (by omega) (by omega) e3 e3' (Am_skip (Am_same e4 (by omega)) (by rw [← c4]; exact hS))
              rw [if_neg (show ¬ b = 0 by omega)] at this
              exact this
            · rw [if_neg c4, sb]
              dsimp only
              have := ih (j + 1) n b g false (by omega) (by omega) e3 e3' (Am_skip (Am_tie e4 (by omega) c2 c4) hS)
              rw [if_neg (show ¬ b = 0 by omega), if_neg (by decide)] at this
              exact this
        · rw [if_neg c2, sb]
          dsimp only
          exact ih (j + 1) n b g u (by omega) (by omega) e3 e3' (Am_skip (Am_less e4 (Or.inl (by omega))) hS)
      · rw [if_neg c1, sb]
        dsimp only
        have := ih (j + 1) n (vts X Y s F (Y.2.1 j / 10)) (Y.2.1 j / 10) true (by omega) (by omega) (by omega) hpj (Am_skip (Am_more e4 (by omega)) hS)
        rw [if_neg (show ¬ vts X Y s F (Y.2.1 j / 10) = 0 by omega), if_pos rfl] at this
        exact this
  unfold f_Mo_movedOf
  rw [kk_64]
  exact key Y.1 0 FU 0 0 false (by omega) (by rw [FU_eq]; omega) (by omega) (by omega) (Or.inl ⟨rfl, rfl, fun c hc => by obtain ⟨q, a1, a2⟩ := hc; omega⟩)
-- the class's votes
variable {p r m : Nat}
theorem Pairs_countWent (hp : isP p = true) (hr : isT r = true) (h0 : TreeIs A I 4 X) (h1 : TreeIs A I r Y) (v0 : VT X) (v1 : VT Y) (hw : WFp X.1 Y.1 s) (h : PairsIs A p s) {F G : Nat} (hF : F < 2 ^ 31) (hG : G < 2 ^ 31) : f_Pairs_countWent (Wd A I sw) p 4 r (nI F) (nI G) = some (nI (vts X Y s F G)) := by
  have hn := h0.2.1
  have hn1 := h1.2.1
  have key : ∀ (k i f : Nat), i + k = X.1 → k < f → f_Pairs_countWent_6 (Wd A I sw) p 4 r (nI F) (nI G) f (nI (cnt (fun i => decide (X.2.1 i / 10 = F) && goT Y s i G) i)) (nI i) = some (nI (vts X Y s F G)) := by
    intro k
    induction k with
    | zero =>
      intro i f e1 e2
      obtain ⟨g, rfl⟩ : ∃ g, f = g + 1 := ⟨f - 1, by omega⟩
      have hi : i = X.1 := by omega
      subst hi
      rw [f_Pairs_countWent_6, Tree_size (by decide) h0, sb, if_pos (Int32.le_refl _)]
      rfl
    | succ k ih =>
      intro i f e1 e2
      obtain ⟨g, rfl⟩ : ∃ g, f = g + 1 := ⟨f - 1, by omega⟩
      have hpF := (v0.f (i := i) (by omega)).2
      rw [f_Pairs_countWent_6, Tree_size (by decide) h0, sb, ifc (nI_leI (by omega) (by omega)), if_neg (by omega), Pairs_mateOf hp h (by omega), sb, add1 i]
      have fin : ∀ (x : Bool), (decide (X.2.1 i / 10 = F) && goT Y s i G) = x → f_Pairs_countWent_6 (Wd A I sw) p 4 r (nI F) (nI G) g (if x = true then nI (cnt (fun i => decide (X.2.1 i / 10 = F) && goT Y s i G) i) + (1 : Int32) else nI (cnt (fun i => decide (X.2.1 i / 10 = F) && goT Y s i G) i)) (nI (i + 1)) = some (nI (vts X Y s F G)) := by
        intro x hx
        have := ih (i + 1) g (by omega) (by omega)
        rw [cnt, hx] at this
        cases x with
        | true => rw [if_pos rfl, add1]; rw [if_pos rfl] at this; exact this
        | false => rw [if_neg (by decide)]; rw [if_neg (by decide)] at this; exact this
      cases e : s.1 i with
      | none =>
        rw [o2i_n, if_pos rfl, sb]
        exact fin false (by unfold goT; rw [e]; simp)
      | some j =>
        have hj := (hw.1 i j e).2
        have hpj := (v1.f hj).2
        rw [o2i_s, if_neg (nI_ne6 (by omega)), Tree_folderAt (by decide) h0 v0 (by omega), sb, ifc (nI_eq (by omega) hF), Tree_folderAt hr h1 v1 hj, sb, ifc (nI_eq (by omega) hG)]
        by_cases c1 : X.2.1 i / 10 = F
        · rw [if_pos c1]
          by_cases c2 : Y.2.1 j / 10 = G
          · rw [if_pos c2, sb]
            exact fin true (by unfold goT; rw [e]; simp [c1, c2])
          · rw [if_neg c2, sb]
            exact fin false (by unfold goT; rw [e]; simp [c2])
        · rw [if_neg c1, sb]
          exact fin false (by simp [c1])
  unfold f_Pairs_countWent
  rw [P_ck hp]
  exact key X.1 0 FU (by omega) (by rw [FU_eq]; omega)
theorem mostVoted (hp : isP p = true) (hr : isT r = true) (h0 : TreeIs A I 4 X) (h1 : TreeIs A I r Y) (v0 : VT X) (v1 : VT Y) (hw : WFp X.1 Y.1 s) (h : PairsIs A p s) {F : Nat} (hF : F < 2 ^ 31) : f_Moves_mostVoted (Wd A I sw) 4 r p (nI F) = some (o2i (mvO (vts X Y s F))) := by
  have hn := h0.2.1
  have hn1 := h1.2.1
  have key : ∀ (k i f b g : Nat) (u : Bool), i + k = X.1 → k < f → b ≤ 12 → g ≤ 444 → Am (vts X Y s F) (fun c => ∃ q j, q < i ∧ X.2.1 q / 10 = F ∧ s.1 q = some j ∧ Y.2.1 j / 10 = c) b g u → f_Moves_mostVoted_13 (Wd A I sw) 4 r p (nI F) f (nI b) (if b = 0 then (-6 : Int32) else nI g) (if b = 0 then (0 : Int32) else if u = true then (0 : Int32) else (1 : Int32)) (nI i) = some (o2i (mvO (vts X Y s F))) := by
    intro k
    induction k with
    | zero =>
      intro i f b g u e1 e2 e3 e3' e4
      obtain ⟨n, rfl⟩ : ∃ n, f = n + 1 := ⟨f - 1, by omega⟩
      have hi : i = X.1 := by omega
      subst hi
      have hE := Am_end e4 (fun c hc => by obtain ⟨i, q, a1, a2, a3, a4⟩ := vts_pos hc; exact ⟨i, q, a1, a2, a3, a4⟩) (fun c hc => by obtain ⟨q, j, a1, a2, a3, a4⟩ := hc; have := (v1.f (hw.1 q j a3).2).2; omega)
      rw [f_Moves_mostVoted_13, Tree_size (by decide) h0, sb, if_pos (Int32.le_refl _), ← hE]
      by_cases c : b = 0
      · have hu : u = false := by
          rcases e4 with ⟨a1, a2, a3⟩ | ⟨a1, a2, a3, a4, a5⟩
          · exact a2
          · omega
        rw [if_pos c, if_pos c, if_pos rfl, hu, if_neg (by decide)]
        rfl
      · rw [if_neg c, if_neg c]
        cases u with
        | true => rw [if_pos rfl, if_pos rfl]; rfl
        | false => rw [if_neg (by decide), if_neg (by decide)]; rfl
    | succ k ih =>
      intro i f b g u e1 e2 e3 e3' e4
      obtain ⟨n, rfl⟩ : ∃ n, f = n + 1 := ⟨f - 1, by omega⟩
      have hpF := (v0.f (i := i) (by omega)).2
      rw [f_Moves_mostVoted_13, Tree_size (by decide) h0, sb, ifc (nI_leI (by omega) (by omega)), if_neg (by omega), Pairs_mateOf hp h (by omega), sb, Tree_folderAt (by decide) h0 v0 (by omega), sb, ifc (nI_eq (by omega) hF), add1]
      have skip : (X.2.1 i / 10 ≠ F ∨ s.1 i = none) → Am (vts X Y s F) (fun c => ∃ q j, q < i + 1 ∧ X.2.1 q / 10 = F ∧ s.1 q = some j ∧ Y.2.1 j / 10 = c) b g u := fun hc => by
        refine Am_skip e4 (fun c => ⟨?_, ?_⟩)
        · rintro ⟨q, j, a1, a2, a3, a4⟩
          exact ⟨q, j, by omega, a2, a3, a4⟩
        · rintro ⟨q, j, a1, a2, a3, a4⟩
          by_cases z : q = i
          · subst z
            rcases hc with hc | hc
            · exact absurd a2 hc
            · rw [hc] at a3; cases a3
          · exact ⟨q, j, by omega, a2, a3, a4⟩
      by_cases c0 : X.2.1 i / 10 = F
      · rw [if_pos c0]
        cases e : s.1 i with
        | none =>
          rw [o2i_n, if_pos rfl, sb]
          dsimp only
          exact ih (i + 1) n b g u (by omega) (by omega) e3 e3' (skip (Or.inr e))
        | some j =>
          have hj := (hw.1 i j e).2
          have hpj := (v1.f hj).2
          have hv := vts_le (X := X) (Y := Y) (s := s) (F := F) (G := Y.2.1 j / 10)
          have hv1 := vts_in (X := X) (Y := Y) (s := s) (i := i) (by omega) e
          rw [c0] at hv1
          have hS : ∀ c, ((∃ q j, q < i ∧ X.2.1 q / 10 = F ∧ s.1 q = some j ∧ Y.2.1 j / 10 = c) ∨ c = Y.2.1 j / 10) ↔ ∃ q j, q < i + 1 ∧ X.2.1 q / 10 = F ∧ s.1 q = some j ∧ Y.2.1 j / 10 = c := by
            intro c
            constructor
            · rintro (⟨q, j, a1, a2, a3, a4⟩ | a)
              · exact ⟨q, j, by omega, a2, a3, a4⟩
              · exact ⟨i, j, by omega, c0, e, a.symm⟩
            · rintro ⟨q, j2, a1, a2, a3, a4⟩
              by_cases z : q = i
              · subst z
                rw [e] at a3
                cases a3
                exact Or.inr a4.symm
              · exact Or.inl ⟨q, j2, by omega, a2, a3, a4⟩
          rw [o2i_s, if_neg (nI_ne6 (by omega)), Tree_folderAt hr h1 v1 hj, sb, Pairs_countWent hp hr h0 h1 v0 v1 hw h hF (by omega), sb, ifc (nI_leI (by omega) (by omega))]
          by_cases c1 : vts X Y s F (Y.2.1 j / 10) ≤ b
          · rw [if_pos c1, ifc (nI_eq (by omega) (by omega)), if_neg (show ¬ b = 0 by omega), if_neg (show ¬ b = 0 by omega)]
            by_cases c2 : vts X Y s F (Y.2.1 j / 10) = b
            · rw [if_pos c2, ifc (nI_eq (by omega) (by omega))]
              by_cases c4 : Y.2.1 j / 10 = g
              · rw [if_pos c4, sb]
                dsimp only
                have := ih (i + 1) n b g u (by omega) (by omega) e3 e3' (Am_skip (Am_same e4 (by omega)) (by rw [← c4]; exact hS))
                rw [if_neg (show ¬ b = 0 by omega), if_neg (show ¬ b = 0 by omega)] at this
                exact this
              · rw [if_neg c4, sb]
                dsimp only
                have := ih (i + 1) n b g false (by omega) (by omega) e3 e3' (Am_skip (Am_tie e4 (by omega) c2 c4) hS)
                rw [if_neg (show ¬ b = 0 by omega), if_neg (show ¬ b = 0 by omega), if_neg (by decide)] at this
                exact this
            · rw [if_neg c2, sb]
              dsimp only
              have := ih (i + 1) n b g u (by omega) (by omega) e3 e3' (Am_skip (Am_less e4 (Or.inl (by omega))) hS)
              rw [if_neg (show ¬ b = 0 by omega), if_neg (show ¬ b = 0 by omega)] at this
              exact this
          · rw [if_neg c1, sb]
            dsimp only
            have := ih (i + 1) n (vts X Y s F (Y.2.1 j / 10)) (Y.2.1 j / 10) true (by omega) (by omega) (by omega) hpj (Am_skip (Am_more e4 (by omega)) hS)
            rw [if_neg (show ¬ vts X Y s F (Y.2.1 j / 10) = 0 by omega), if_neg (show ¬ vts X Y s F (Y.2.1 j / 10) = 0 by omega), if_pos rfl] at this
            exact this
      · rw [if_neg c0, sb]
        dsimp only
        exact ih (i + 1) n b g u (by omega) (by omega) e3 e3' (skip (Or.inl c0))
  unfold f_Moves_mostVoted
  exact key X.1 0 FU 0 0 false (by omega) (by rw [FU_eq]; omega) (by omega) (by omega) (Or.inl ⟨rfl, rfl, fun c hc => by obtain ⟨q, j, a1, a2⟩ := hc; omega⟩)
end VM
