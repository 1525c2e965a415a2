-- ===== a content is wholly alike itself =====
theorem tms_all : ∀ k c, sumN (fun d => tms d k c) 10 = k := by
  intro k
  induction k with
  | zero => intro c; rfl
  | succ k ih =>
    intro c
    have h := ih (c / 10)
    simp only [sumN, tms] at h ⊢
    have hd : c % 10 < 10 := Nat.mod_lt _ (by decide)
    generalize c % 10 = d at hd ⊢
    rcases (show d = 0 ∨ d = 1 ∨ d = 2 ∨ d = 3 ∨ d = 4 ∨ d = 5 ∨ d = 6 ∨ d = 7 ∨ d = 8 ∨ d = 9 by omega) with rfl | rfl | rfl | rfl | rfl | rfl | rfl | rfl | rfl | rfl <;> simp <;> omega
theorem sumN_mono {f g : Nat → Nat} : ∀ n, (∀ i, i < n → f i ≤ g i) → sumN f n ≤ sumN g n := by
  intro n
  induction n with
  | zero => intro _; exact Nat.le_refl _
  | succ n ih => intro h; rw [sumN, sumN]; have h1 := ih (fun i hi => h i (by omega)); have h2 := h n (by omega); omega
theorem alk_le (c e : Nat) : alk c e ≤ 100 := by
  unfold alk
  split
  · exact Nat.le_refl _
  · have h1 : both c e ≤ nd c := by
      unfold both
      refine Nat.le_trans (sumN_mono 10 (fun d _ => Nat.min_le_left _ _)) ?_
      rw [tms_all]
      exact Nat.le_refl _
    refine Nat.div_le_of_le_mul ?_
    have : nd c ≤ max (nd c) (nd e) := Nat.le_max_left _ _
    rw [Nat.mul_comm]
    exact Nat.mul_le_mul_right 100 (by omega)
theorem alk_self (c : Nat) : alk c c = 100 := by
  unfold alk both
  rw [Nat.max_self]
  split
  · rfl
  · have e : sumN (fun d => min (tms d (nd c) c) (tms d (nd c) c)) 10 = nd c := by
      have : (fun d => min (tms d (nd c) c) (tms d (nd c) c)) = (fun d => tms d (nd c) c) := by funext d; exact Nat.min_self _
      rw [this, tms_all]
    rw [e]
    exact Nat.mul_div_cancel _ (by omega)
-- ===== the search for the best =====
abbrev Acc : Type := Nat × Nat × Nat
def scJ (w : Nat → Nat → Nat) (i : Nat) : Nat → Nat → Acc → Acc
  | _, 0, s => s
  | j, k + 1, s => scJ w i (j + 1) k (if w i j ≤ s.1 then s else (w i j, i, j))
def scI (w : Nat → Nat → Nat) (n1 : Nat) : Nat → Nat → Acc → Acc
  | _, 0, s => s
  | i, k + 1, s => scI w n1 (i + 1) k (scJ w i 0 n1 s)
def scan (w : Nat → Nat → Nat) (n0 n1 : Nat) : Acc := scI w n1 0 n0 (0, 0, 0)
/-- s is the best of what lies ahead of (i, j) -/
def Bst (w : Nat → Nat → Nat) (n1 : Nat) (i j : Nat) (s : Acc) : Prop := (s.1 = 0 ∧ ∀ a c, c < n1 → (a < i ∨ (a = i ∧ c < j)) → w a c = 0) ∨ (0 < s.1 ∧ s.1 = w s.2.1 s.2.2 ∧ s.2.2 < n1 ∧ (s.2.1 < i ∨ (s.2.1 = i ∧ s.2.2 < j)) ∧ ∀ a c, c < n1 → (a < i ∨ (a = i ∧ c < j)) → w a c ≤ s.1 ∧ ((a < s.2.1 ∨ (a = s.2.1 ∧ c < s.2.2)) → w a c < s.1))
theorem scJ_spec (w : Nat → Nat → Nat) (n1 i : Nat) : ∀ (k j : Nat) (s : Acc), j + k = n1 → Bst w n1 i j s → Bst w n1 i n1 (scJ w i j k s) := by
  intro k
  induction k with
  | zero =>
    intro j s h1 h2
    have : j = n1 := by omega
    subst this
    exact h2
  | succ k ih =>
    intro j s h1 h2
    rw [scJ]
    refine ih (j + 1) _ (by omega) ?_
    by_cases c : w i j ≤ s.1
    · rw [if_pos c]
      rcases h2 with ⟨a1, a2⟩ | ⟨a1, a2, a3, a4, a5⟩
      · refine Or.inl ⟨a1, fun a q hq h => ?_⟩
        by_cases e : a = i ∧ q = j
        · rw [e.1, e.2]; omega
        · exact a2 a q hq (by omega)
      · refine Or.inr ⟨a1, a2, a3, by omega, fun a q hq h => ?_⟩
        by_cases e : a = i ∧ q = j
        · obtain ⟨rfl, rfl⟩ := e
          exact ⟨c, fun h5 => by omega⟩
        · exact a5 a q hq (by omega)
    · rw [if_neg c]
      refine Or.inr ⟨by show 0 < w i j; omega, rfl, by show j < n1; omega, Or.inr ⟨rfl, by show j < j + 1; omega⟩, fun a q hq h => ?_⟩
      show w a q ≤ w i j ∧ ((a < i ∨ a = i ∧ q < j) → w a q < w i j)
      by_cases e : a = i ∧ q = j
      · obtain ⟨rfl, rfl⟩ := e
        exact ⟨Nat.le_refl _, fun h5 => by omega⟩
      · have h3 : w a q ≤ s.1 := by
          rcases h2 with ⟨a1, a2⟩ | ⟨a1, a2, a3, a4, a5⟩
          · have := a2 a q hq (by omega); omega
          · exact (a5 a q hq (by omega)).1
        exact ⟨by omega, fun _ => by omega⟩
theorem Bst_next {w : Nat → Nat → Nat} {n1 i : Nat} {s : Acc} (h : Bst w n1 i n1 s) : Bst w n1 (i + 1) 0 s := by
  rcases h with ⟨a1, a2⟩ | ⟨a1, a2, a3, a4, a5⟩
  · exact Or.inl ⟨a1, fun a q hq h => a2 a q hq (by omega)⟩
  · exact Or.inr ⟨a1, a2, a3, by omega, fun a q hq h => a5 a q hq (by omega)⟩
theorem scI_spec (w : Nat → Nat → Nat) (n1 : Nat) : ∀ (k i : Nat) (s : Acc), Bst w n1 i 0 s → Bst w n1 (i + k) 0 (scI w n1 i k s) := by
  intro k
  induction k with
  | zero => intro i s h; exact h
  | succ k ih =>
    intro i s h
    rw [scI, show i + (k + 1) = i + 1 + k by omega]
    exact ih (i + 1) _ (Bst_next (scJ_spec w n1 i n1 0 s (by omega) h))
theorem scan_spec (w : Nat → Nat → Nat) (n0 n1 : Nat) : Bst w n1 n0 0 (scan w n0 n1) := by
  have := scI_spec w n1 n0 0 (0, 0, 0) (Or.inl ⟨rfl, fun a c _ h => by omega⟩)
  rw [Nat.zero_add] at this
  exact this
theorem scan_none {w : Nat → Nat → Nat} {n0 n1 : Nat} (h : (scan w n0 n1).1 = 0) : ∀ a c, a < n0 → c < n1 → w a c = 0 := by
  intro a c ha hc
  rcases scan_spec w n0 n1 with ⟨a1, a2⟩ | ⟨a1, a2, a3, a4, a5⟩
  · exact a2 a c hc (Or.inl ha)
  · omega
theorem scan_zero {w : Nat → Nat → Nat} {n0 n1 : Nat} (h : ∀ a c, a < n0 → c < n1 → w a c = 0) : (scan w n0 n1).1 = 0 := by
  rcases scan_spec w n0 n1 with ⟨a1, a2⟩ | ⟨a1, a2, a3, a4, a5⟩
  · exact a1
  · have := h (scan w n0 n1).2.1 (scan w n0 n1).2.2 (by omega) a3
    omega
/-- what the best is, said of the pair alone -/
def IsB (w : Nat → Nat → Nat) (n0 n1 i j : Nat) : Prop := i < n0 ∧ j < n1 ∧ 0 < w i j ∧ ∀ a c, a < n0 → c < n1 → w a c ≤ w i j ∧ ((a < i ∨ (a = i ∧ c < j)) → w a c < w i j)
theorem scan_IsB {w : Nat → Nat → Nat} {n0 n1 : Nat} (h : 0 < (scan w n0 n1).1) : IsB w n0 n1 (scan w n0 n1).2.1 (scan w n0 n1).2.2 ∧ (scan w n0 n1).1 = w (scan w n0 n1).2.1 (scan w n0 n1).2.2 := by
  rcases scan_spec w n0 n1 with ⟨a1, a2⟩ | ⟨a1, a2, a3, a4, a5⟩
  · omega
  · refine ⟨⟨by omega, a3, by omega, fun a c ha hc => ?_⟩, a2⟩
    rw [← a2]
    exact a5 a c hc (Or.inl ha)
theorem IsB_uniq {w : Nat → Nat → Nat} {n0 n1 i j a c : Nat} (h : IsB w n0 n1 i j) (g : IsB w n0 n1 a c) : i = a ∧ j = c := by
  obtain ⟨h1, h2, h3, h4⟩ := h
  obtain ⟨g1, g2, g3, g4⟩ := g
  have e1 := h4 a c g1 g2
  have e2 := g4 i j h1 h2
  have e3 : ¬ (a < i ∨ (a = i ∧ c < j)) := fun q => by have := e1.2 q; omega
  have e4 : ¬ (i < a ∨ (i = a ∧ j < c)) := fun q => by have := e2.2 q; omega
  omega
theorem IsB_scan {w : Nat → Nat → Nat} {n0 n1 i j : Nat} (h : IsB w n0 n1 i j) : scan w n0 n1 = (w i j, i, j) := by
  have hp : 0 < (scan w n0 n1).1 := by
    rcases Nat.eq_zero_or_pos (scan w n0 n1).1 with q | q
    · have := scan_none q i j h.1 h.2.1
      have := h.2.2.1
      omega
    · exact q
  obtain ⟨h1, h2⟩ := scan_IsB hp
  obtain ⟨e1, e2⟩ := IsB_uniq h1 h
  rw [e1, e2] at h2
  exact Prod.ext h2 (Prod.ext e1 e2)
theorem scJ_cong {w v : Nat → Nat → Nat} {i : Nat} : ∀ (k j : Nat) (s : Acc), (∀ c, j ≤ c → c < j + k → w i c = v i c) → scJ w i j k s = scJ v i j k s := by
  intro k
  induction k with
  | zero => intro j s _; rfl
  | succ k ih =>
    intro j s h
    rw [scJ, scJ, h j (Nat.le_refl _) (by omega)]
    exact ih (j + 1) _ (fun c a b => h c (by omega) (by omega))
theorem scI_cong {w v : Nat → Nat → Nat} {n1 : Nat} : ∀ (k i : Nat) (s : Acc), (∀ a c, i ≤ a → a < i + k → c < n1 → w a c = v a c) → scI w n1 i k s = scI v n1 i k s := by
  intro k
  induction k with
  | zero => intro i s _; rfl
  | succ k ih =>
    intro i s h
    rw [scI, scI, scJ_cong n1 0 s (fun c a b => h i c (Nat.le_refl _) (by omega) (by omega))]
    exact ih (i + 1) _ (fun a c x y z => h a c (by omega) (by omega) z)
theorem scan_cong {w v : Nat → Nat → Nat} {n0 n1 : Nat} (h : ∀ a c, a < n0 → c < n1 → w a c = v a c) : scan w n0 n1 = scan v n0 n1 := scI_cong n0 0 _ (fun a c _ y z => h a c (by omega) z)
theorem scJ_zero {w : Nat → Nat → Nat} {i : Nat} : ∀ (k j : Nat) (s : Acc), (∀ c, w i c = 0) → scJ w i j k s = s := by
  intro k
  induction k with
  | zero => intro j s _; rfl
  | succ k ih => intro j s h; rw [scJ, if_pos (by rw [h j]; omega)]; exact ih (j + 1) s h
-- ===== pairs =====
abbrev Pst : Type := (Nat → Option Nat) × (Nat → Option Nat) × (Nat → Option Nat)
def upO (f : Nat → Option Nat) (k x : Nat) : Nat → Option Nat := fun j => if j = k then some x else f j
def joinP (s : Pst) (i j w : Nat) : Pst := (upO s.1 i j, upO s.2.1 i w, upO s.2.2 j i)
/-- twice the likeness, and one more by the same name -/
def clo (X Y : Tre) (i j : Nat) : Nat := 2 * alk (X.2.2 i) (Y.2.2 j) + (if X.2.1 i % 10 = Y.2.1 j % 10 then 1 else 0)
def rk1 (X Y : Tre) (i j : Nat) : Nat := if X.2.2 i ≤ 1 ∨ Y.2.2 j ≤ 1 then 0 else if X.2.2 i = Y.2.2 j then clo X Y i j else 0
def rk2 (lim : Nat) (X Y : Tre) (i j : Nat) : Nat := if X.2.2 i ≤ 1 ∨ Y.2.2 j ≤ 1 then 0 else if alk (X.2.2 i) (Y.2.2 j) < lim then 0 else clo X Y i j
def rkC (lim : Nat) (X Y : Tre) (i j : Nat) : Nat := if X.2.2 i ≤ 1 ∨ Y.2.2 j ≤ 1 then 0 else if X.2.2 i = Y.2.2 j then 202 + (if X.2.1 i % 10 = Y.2.1 j % 10 then 1 else 0) else if alk (X.2.2 i) (Y.2.2 j) < lim then 0 else clo X Y i j
def wt (rk : Nat → Nat → Nat) (s : Pst) (i j : Nat) : Nat := if s.1 i = none ∧ s.2.2 j = none then rk i j else 0
theorem wt_pos {rk : Nat → Nat → Nat} {s : Pst} {i j : Nat} (h : 0 < wt rk s i j) : (s.1 i = none ∧ s.2.2 j = none) ∧ 0 < rk i j := by
  unfold wt at h
  split at h
  · rename_i h1
    exact ⟨h1, h⟩
  · omega
theorem wt_in {rk : Nat → Nat → Nat} {s : Pst} {i j : Nat} (h : s.1 i = none ∧ s.2.2 j = none) : wt rk s i j = rk i j := by
  unfold wt
  rw [if_pos h]
def stp (rk : Nat → Nat → Nat) (way : Nat → Nat → Nat) (n0 n1 : Nat) (s : Pst) : Pst := if (scan (wt rk s) n0 n1).1 = 0 then s else joinP s (scan (wt rk s) n0 n1).2.1 (scan (wt rk s) n0 n1).2.2 (way (scan (wt rk s) n0 n1).2.1 (scan (wt rk s) n0 n1).2.2)
def stpM1 (X Y : Tre) : Pst → Pst := stp (rk1 X Y) (fun _ _ => 1) X.1 Y.1
def stpM2 (lim : Nat) (X Y : Tre) : Pst → Pst := stp (rk2 lim X Y) (fun _ _ => 2) X.1 Y.1
def stpC (lim : Nat) (X Y : Tre) : Pst → Pst := stp (rkC lim X Y) (fun i j => if X.2.2 i = Y.2.2 j then 1 else 2) X.1 Y.1
def itr {α : Type} (f : α → α) : Nat → α → α
  | 0, s => s
  | n + 1, s => itr f n (f s)
theorem itr_s {α : Type} (f : α → α) : ∀ n s, itr f (n + 1) s = f (itr f n s) := by
  intro n
  induction n with
  | zero => intro s; rfl
  | succ n ih => intro s; rw [itr, ih (f s), itr]
/-- how many of the base are without one -/
def unm (n0 : Nat) (s : Pst) : Nat := cnt (fun i => s.1 i == none) n0
theorem cnt_one {q p : Nat → Bool} {k : Nat} : ∀ n, k < n → q k = true → p k = false → (∀ t, t ≠ k → p t = q t) → cnt p n + 1 = cnt q n := by
  intro n
  induction n with
  | zero => intro h; omega
  | succ n ih =>
    intro h1 h2 h3 h4
    rw [cnt, cnt]
    by_cases hk : k = n
    · subst hk
      rw [cnt_cong k (fun t ht => h4 t (by omega)), h2, h3]
      simp
    · have := ih (by omega) h2 h3 h4
      rw [h4 n (by omega)]
      omega
theorem unm_join {n0 : Nat} {s : Pst} {i j w : Nat} (hi : i < n0) (h : s.1 i = none) : unm n0 (joinP s i j w) + 1 = unm n0 s := by
  refine cnt_one n0 hi (by simp [h]) (by simp [joinP, upO]) (fun t ht => by simp [joinP, upO, ht])
theorem stp_unm {rk : Nat → Nat → Nat} {way : Nat → Nat → Nat} {n0 n1 : Nat} (s : Pst) : stp rk way n0 n1 s = s ∨ unm n0 (stp rk way n0 n1 s) + 1 = unm n0 s := by
  unfold stp
  split
  · exact Or.inl rfl
  · rename_i h
    obtain ⟨h1, -⟩ := scan_IsB (Nat.pos_of_ne_zero h)
    exact Or.inr (unm_join h1.1 (wt_pos h1.2.2.1).1.1)
theorem itr_fix {α : Type} {f : α → α} {s : α} (h : f s = s) : ∀ n, itr f n s = s := by
  intro n
  induction n with
  | zero => rfl
  | succ n ih => rw [itr, h, ih]
theorem itr_unm {rk : Nat → Nat → Nat} {way : Nat → Nat → Nat} {n0 n1 : Nat} : ∀ n s, unm n0 (itr (stp rk way n0 n1) n s) ≤ unm n0 s := by
  intro n
  induction n with
  | zero => intro s; exact Nat.le_refl _
  | succ n ih =>
    intro s
    rw [itr]
    have h1 := ih (stp rk way n0 n1 s)
    rcases stp_unm (rk := rk) (way := way) (n0 := n0) (n1 := n1) s with h | h
    · rw [h] at h1 ⊢; exact h1
    · omega
/-- after as many steps as there are left, nothing more happens -/
theorem itr_stable {rk : Nat → Nat → Nat} {way : Nat → Nat → Nat} {n0 n1 : Nat} : ∀ n s, unm n0 s ≤ n → stp rk way n0 n1 (itr (stp rk way n0 n1) n s) = itr (stp rk way n0 n1) n s := by
  intro n
  induction n with
  | zero =>
    intro s h
    rcases stp_unm (rk := rk) (way := way) (n0 := n0) (n1 := n1) s with h1 | h1
    · exact h1
    · omega
  | succ n ih =>
    intro s h
    rcases stp_unm (rk := rk) (way := way) (n0 := n0) (n1 := n1) s with h1 | h1
    · rw [itr_fix h1 (n + 1)]; exact h1
    · rw [itr]
      exact ih _ (by omega)
theorem itr_more {rk : Nat → Nat → Nat} {way : Nat → Nat → Nat} {n0 n1 n : Nat} {s : Pst} (h : unm n0 s ≤ n) : itr (stp rk way n0 n1) (n + 1) s = itr (stp rk way n0 n1) n s := by
  rw [itr_s, itr_stable n s h]
section PQ
variable {lim : Nat} {X Y : Tre}
theorem rk_same {i j : Nat} (h : 0 < rk1 X Y i j) : X.2.2 i = Y.2.2 j ∧ rkC lim X Y i j = rk1 X Y i j + 2 ∧ 200 ≤ rk1 X Y i j := by
  unfold rk1 at h
  split at h
  · omega
  · rename_i h1
    split at h
    · rename_i h2
      refine ⟨h2, ?_, ?_⟩
      · unfold rkC rk1 clo
        rw [if_neg h1, if_pos h2, if_neg h1, if_pos h2, h2, alk_self]
        omega
      · unfold rk1 clo
        rw [if_neg h1, if_pos h2, h2, alk_self]
        omega
    · omega
theorem rk_other {i j : Nat} (h : rk1 X Y i j = 0) : rkC lim X Y i j = rk2 lim X Y i j ∧ rkC lim X Y i j ≤ 201 := by
  unfold rk1 at h
  unfold rkC rk2
  split at h
  · rename_i h1
    rw [if_pos h1, if_pos h1]
    exact ⟨rfl, by omega⟩
  · rename_i h1
    split at h
    · rename_i h2
      unfold clo at h
      rw [h2, alk_self] at h
      omega
    · rename_i h2
      rw [if_neg h1, if_neg h1, if_neg h2]
      refine ⟨rfl, ?_⟩
      split
      · omega
      · unfold clo
        have := alk_le (X.2.2 i) (Y.2.2 j)
        split <;> omega
theorem stpA {s : Pst} (h : 0 < (scan (wt (rk1 X Y) s) X.1 Y.1).1) : stpC lim X Y s = stpM1 X Y s := by
  obtain ⟨⟨h1, h2, h3, h4⟩, h5⟩ := scan_IsB h
  generalize hi : (scan (wt (rk1 X Y) s) X.1 Y.1).2.1 = i at h1 h2 h3 h4 h5
  generalize hj : (scan (wt (rk1 X Y) s) X.1 Y.1).2.2 = j at h1 h2 h3 h4 h5
  have hl : s.1 i = none ∧ s.2.2 j = none := by
    unfold wt at h3
    split at h3
    · assumption
    · omega
  have hr : 0 < rk1 X Y i j := by
    unfold wt at h3
    rw [if_pos hl] at h3
    exact h3
  obtain ⟨e1, e2, e3⟩ := rk_same (lim := lim) hr
  have hB : IsB (wt (rkC lim X Y) s) X.1 Y.1 i j := by
    have w0 : wt (rkC lim X Y) s i j = rk1 X Y i j + 2 := by unfold wt; rw [if_pos hl, e2]
    have w1 : wt (rk1 X Y) s i j = rk1 X Y i j := by unfold wt; rw [if_pos hl]
    refine ⟨h1, h2, by omega, fun a c ha hc => ?_⟩
    have h6 := h4 a c ha hc
    rw [w1] at h6
    rw [w0]
    by_cases hz : wt (rk1 X Y) s a c = 0
    · have h7 : wt (rkC lim X Y) s a c ≤ 201 := by
        unfold wt at hz ⊢
        split
        · rename_i h8
          rw [if_pos h8] at hz
          exact (rk_other hz).2
        · omega
      exact ⟨by omega, fun _ => by omega⟩
    · have h7 : wt (rkC lim X Y) s a c = wt (rk1 X Y) s a c + 2 := by
        unfold wt at hz ⊢
        split
        · rename_i h8
          rw [if_pos h8] at hz
          exact (rk_same (by omega)).2.1
        · rename_i h8
          rw [if_neg h8] at hz
          omega
      rw [h7]
      exact ⟨by omega, fun q => by have := h6.2 q; omega⟩
  unfold stpC stpM1 stp
  rw [IsB_scan hB, if_neg (by have := hB.2.2.1; show ¬ wt (rkC lim X Y) s i j = 0; omega), if_neg (by omega), hi, hj]
  show joinP s i j (if X.2.2 i = Y.2.2 j then 1 else 2) = joinP s i j 1
  rw [if_pos e1]
theorem stpB {s : Pst} (h : (scan (wt (rk1 X Y) s) X.1 Y.1).1 = 0) : stpC lim X Y s = stpM2 lim X Y s ∧ (scan (wt (rk1 X Y) (stpM2 lim X Y s)) X.1 Y.1).1 = 0 := by
  have hz := scan_none h
  have e : scan (wt (rkC lim X Y) s) X.1 Y.1 = scan (wt (rk2 lim X Y) s) X.1 Y.1 := scan_cong (fun a c ha hc => by
    have h1 := hz a c ha hc
    unfold wt at h1 ⊢
    split
    · rename_i h2
      rw [if_pos h2] at h1
      exact (rk_other h1).1
    · rfl)
  constructor
  · unfold stpC stpM2 stp
    rw [e]
    split
    · rfl
    · rename_i h0
      obtain ⟨⟨h1, h2, h3, h4⟩, h5⟩ := scan_IsB (Nat.pos_of_ne_zero h0)
      have hne : ¬ X.2.2 (scan (wt (rk2 lim X Y) s) X.1 Y.1).2.1 = Y.2.2 (scan (wt (rk2 lim X Y) s) X.1 Y.1).2.2 := by
        intro q
        have h6 := hz _ _ h1 h2
        obtain ⟨hl, h8⟩ := wt_pos h3
        rw [wt_in hl] at h6
        generalize (scan (wt (rk2 lim X Y) s) X.1 Y.1).2.1 = i at q h6 h8
        generalize (scan (wt (rk2 lim X Y) s) X.1 Y.1).2.2 = j at q h6 h8
        unfold rk2 at h8
        unfold rk1 at h6
        split at h8
        · omega
        · rename_i h7
          rw [if_neg h7, if_pos q] at h6
          unfold clo at h6
          rw [q, alk_self] at h6
          omega
      dsimp only
      rw [if_neg hne]
  · refine scan_zero (fun a c ha hc => ?_)
    have h1 := hz a c ha hc
    unfold stpM2 stp
    split
    · exact h1
    · unfold wt at h1 ⊢
      split
      · rename_i h2
        have h3 : s.1 a = none ∧ s.2.2 c = none := by
          simp only [joinP, upO] at h2
          constructor
          · have := h2.1
            split at this
            · cases this
            · exact this
          · have := h2.2
            split at this
            · cases this
            · exact this
        rw [if_pos h3] at h1
        exact h1
      · rfl
theorem itr_B : ∀ n s, (scan (wt (rk1 X Y) s) X.1 Y.1).1 = 0 → itr (stpC lim X Y) n s = itr (stpM2 lim X Y) n s := by
  intro n
  induction n with
  | zero => intro s _; rfl
  | succ n ih =>
    intro s h
    obtain ⟨h1, h2⟩ := stpB (lim := lim) h
    rw [itr, itr, h1]
    exact ih _ h2
/-- one search in one order finds what the two searches find -/
theorem greedy : ∀ n s, unm X.1 s ≤ n → itr (stpC lim X Y) n s = itr (stpM2 lim X Y) n (itr (stpM1 X Y) n s) := by
  intro n
  induction n with
  | zero => intro s _; rfl
  | succ n ih =>
    intro s h
    by_cases c : (scan (wt (rk1 X Y) s) X.1 Y.1).1 = 0
    · have e : stpM1 X Y s = s := by unfold stpM1 stp; rw [if_pos c]
      rw [itr_B (n + 1) s c, itr_fix e (n + 1)]
    · have e := stpA (lim := lim) (s := s) (Nat.pos_of_ne_zero c)
      have hu : unm X.1 (stpM1 X Y s) ≤ n := by
        rcases stp_unm (rk := rk1 X Y) (way := fun _ _ => 1) (n0 := X.1) (n1 := Y.1) s with q | q
        · exfalso
          unfold stp at q
          rw [if_neg c] at q
          obtain ⟨h1, -⟩ := scan_IsB (Nat.pos_of_ne_zero c)
          have h3 := (wt_pos h1.2.2.1).1
          have h4 := congrArg (fun z : Pst => z.1 (scan (wt (rk1 X Y) s) X.1 Y.1).2.1) q
          simp [joinP, upO] at h4
          rw [h3.1] at h4
          cases h4
        · have : unm X.1 (stpM1 X Y s) + 1 = unm X.1 s := q
          omega
      rw [itr, e, ih _ hu]
      have e2 : itr (stpM1 X Y) (n + 1) s = itr (stpM1 X Y) n (stpM1 X Y s) := rfl
      rw [e2]
      refine (itr_more ?_).symm
      exact Nat.le_trans (itr_unm n _) hu
end PQ
