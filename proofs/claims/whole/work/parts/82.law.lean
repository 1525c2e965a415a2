-- ===== the law =====
section LW
variable {A I : Nat → Nat → Int32} {sw : Bool} {L : Nat} {xs : Nat → Int32}
theorem Both.run {fC fM : Hp → Option (Int32 × Hp)} (h : Both A I sw fC fM) {R : Hp → Option Int32} (hR : ∀ (C G : Nat → Nat → Int32) (s2 : Bool), Inv C G s2 → R (Wd C G s2) = some 1) : ((fC (Wd A I sw)).bind fun q => (fM q.2).bind fun r => if q.1 = r.1 then R r.2 else some (0 : Int32)) = some 1 := by
  obtain ⟨x, B, J, s2, C, G, a, b, c⟩ := h
  rw [a, sb]
  dsimp only
  rw [b, sb]
  dsimp only
  rw [if_pos rfl]
  exact hR C G s2 c
theorem gX_at {j : Nat} (hj : j < L) (hL : L ≤ 2560) : gX xs L (nI j) = some (xs j) := by
  unfold gX
  have hx : ix (nI j) L = true := decide_eq_true (nI_in hj (by omega))
  rw [if_pos hx, nI_clamp (by omega)]
theorem end_at {i : Nat} (hi : i ≤ L) (hL : L ≤ 2560) : (Int32.ofNat L - (5 : Int32)) < nI i ↔ L < i + 5 := by
  show nI L - nI 5 < nI i ↔ _
  by_cases c : 5 ≤ L
  · rw [nI_sub c, nI_ltI (by omega) (by omega)]
    omega
  · have e : ∀ l, l < 5 → ∀ j, j ≤ l → (nI l - nI 5 < nI j) := by decide
    exact ⟨fun _ => by omega, fun _ => e L (by omega) i hi⟩
theorem law_loop (hL : L ≤ 2560) : ∀ (f i : Nat) (A I : Nat → Nat → Int32) (sw : Bool), Inv A I sw → i ≤ L → L < i + 5 * f → f_Law_law_18 xs L 0 64 f (nI i) (Wd A I sw) = some 1 := by
  intro f
  induction f with
  | zero => intro i A I sw _ h1 h2; omega
  | succ f ih =>
    intro i A I sw hI h1 h2
    rw [f_Law_law_18, ifc (end_at h1 hL)]
    by_cases c : L < i + 5
    · rw [if_pos c]
    · have nx : ∀ (C G : Nat → Nat → Int32) (s2 : Bool), Inv C G s2 → f_Law_law_18 xs L 0 64 f (nI i + (5 : Int32)) (Wd C G s2) = some 1 := by
        intro C G s2 h
        rw [show nI i + (5 : Int32) = nI (i + 5) from nI_add i 5]
        exact ih (i + 5) C G s2 h (by omega) (by omega)
      have g0 : gX xs L (nI i) = some (xs i) := gX_at (by omega) hL
      have g1 : gX xs L (nI i + (1 : Int32)) = some (xs (i + 1)) := by rw [show nI i + (1 : Int32) = nI (i + 1) from nI_add i 1]; exact gX_at (by omega) hL
      have g2 : gX xs L (nI i + (2 : Int32)) = some (xs (i + 2)) := by rw [show nI i + (2 : Int32) = nI (i + 2) from nI_add i 2]; exact gX_at (by omega) hL
      have g3 : gX xs L (nI i + (3 : Int32)) = some (xs (i + 3)) := by rw [show nI i + (3 : Int32) = nI (i + 3) from nI_add i 3]; exact gX_at (by omega) hL
      have g4 : gX xs L (nI i + (4 : Int32)) = some (xs (i + 4)) := by rw [show nI i + (4 : Int32) = nI (i + 4) from nI_add i 4]; exact gX_at (by omega) hL
      rw [if_neg c, g0, sb]
      by_cases e : xs i &&& (31 : Int32) = (0 : Int32)
      · rw [if_pos e, g1]
        simp only [sb]
        exact (op_say hI (xs (i + 1))).run (R := fun h => f_Law_law_18 xs L 0 64 f (nI i + (5 : Int32)) h) nx
      rw [if_neg e]
      clear e
      by_cases e : xs i &&& (31 : Int32) = (1 : Int32)
      · rw [if_pos e]
        exact (op_wipe hI).run (R := fun h => f_Law_law_18 xs L 0 64 f (nI i + (5 : Int32)) h) nx
      rw [if_neg e]
      clear e
      by_cases e : xs i &&& (31 : Int32) = (2 : Int32)
      · rw [if_pos e]
        obtain ⟨a, C, G, a1, a2, a3⟩ := op_fault hI
        rw [a1, sb, a2, sb]
        dsimp only
        rw [if_pos rfl]
        exact nx C G sw a3
      rw [if_neg e]
      clear e
      by_cases e : xs i &&& (31 : Int32) = (3 : Int32)
      · rw [if_pos e, g1]
        simp only [sb]
        exact (op_put hI (xs (i + 1))).run (R := fun h => f_Law_law_18 xs L 0 64 f (nI i + (5 : Int32)) h) nx
      rw [if_neg e]
      clear e
      by_cases e : xs i &&& (31 : Int32) = (4 : Int32)
      · rw [if_pos e, g1, g2]
        simp only [sb]
        exact (op_drop hI (xs (i + 1)) (xs (i + 2))).run (R := fun h => f_Law_law_18 xs L 0 64 f (nI i + (5 : Int32)) h) nx
      rw [if_neg e]
      clear e
      by_cases e : xs i &&& (31 : Int32) = (5 : Int32)
      · rw [if_pos e, g1, g2, g3]
        simp only [sb]
        obtain ⟨a, a1, a2⟩ := op_file hI (xs (i + 1)) (xs (i + 2)) (xs (i + 3))
        rw [a1, sb, a2, sb, if_pos rfl]
        exact nx A I sw hI
      rw [if_neg e]
      clear e
      by_cases e : xs i &&& (31 : Int32) = (6 : Int32)
      · rw [if_pos e, g1]
        simp only [sb]
        exact (op_copy hI (xs (i + 1))).run (R := fun h => f_Law_law_18 xs L 0 64 f (nI i + (5 : Int32)) h) nx
      rw [if_neg e]
      clear e
      by_cases e : xs i &&& (31 : Int32) = (7 : Int32)
      · rw [if_pos e, g1]
        simp only [sb]
        exact (op_limit hI (xs (i + 1))).run (R := fun h => f_Law_law_18 xs L 0 64 f (nI i + (5 : Int32)) h) nx
      rw [if_neg e]
      clear e
      by_cases e : xs i &&& (31 : Int32) = (8 : Int32)
      · rw [if_pos e, g1, g2, g3, g4]
        simp only [sb]
        obtain ⟨a, a1, a2⟩ := op_alike hI (xs (i + 1)) (xs (i + 2)) (xs (i + 3)) (xs (i + 4))
        rw [a1, sb, a2, sb, if_pos rfl]
        exact nx A I sw hI
      rw [if_neg e]
      clear e
      by_cases e : xs i &&& (31 : Int32) = (9 : Int32)
      · rw [if_pos e, g1, g2, g3]
        simp only [sb]
        exact (op_pair hI (xs (i + 1)) (xs (i + 2)) (xs (i + 3))).run (R := fun h => f_Law_law_18 xs L 0 64 f (nI i + (5 : Int32)) h) nx
      rw [if_neg e]
      clear e
      by_cases e : xs i &&& (31 : Int32) = (10 : Int32)
      · rw [if_pos e, g1, g2]
        simp only [sb]
        exact (op_origin hI (xs (i + 1)) (xs (i + 2))).run (R := fun h => f_Law_law_18 xs L 0 64 f (nI i + (5 : Int32)) h) nx
      rw [if_neg e]
      clear e
      by_cases e : xs i &&& (31 : Int32) = (11 : Int32)
      · rw [if_pos e, g1, g2, g3]
        simp only [sb]
        exact (op_votes hI (xs (i + 1)) (xs (i + 2)) (xs (i + 3))).run (R := fun h => f_Law_law_18 xs L 0 64 f (nI i + (5 : Int32)) h) nx
      rw [if_neg e]
      clear e
      by_cases e : xs i &&& (31 : Int32) = (12 : Int32)
      · rw [if_pos e, g1, g2, g3]
        simp only [sb]
        exact (op_moved hI (xs (i + 1)) (xs (i + 2)) (xs (i + 3))).run (R := fun h => f_Law_law_18 xs L 0 64 f (nI i + (5 : Int32)) h) nx
      rw [if_neg e]
      clear e
      by_cases e : xs i &&& (31 : Int32) = (13 : Int32)
      · rw [if_pos e, g1, g2]
        simp only [sb]
        exact (op_dest hI (xs (i + 1)) (xs (i + 2))).run (R := fun h => f_Law_law_18 xs L 0 64 f (nI i + (5 : Int32)) h) nx
      rw [if_neg e]
      clear e
      by_cases e : xs i &&& (31 : Int32) = (14 : Int32)
      · rw [if_pos e, g1, g2]
        simp only [sb]
        exact (op_entry hI (xs (i + 1)) (xs (i + 2))).run (R := fun h => f_Law_law_18 xs L 0 64 f (nI i + (5 : Int32)) h) nx
      rw [if_neg e]
      clear e
      by_cases e : xs i &&& (31 : Int32) = (15 : Int32)
      · rw [if_pos e, g1, g2]
        simp only [sb]
        exact (op_clash hI (xs (i + 1)) (xs (i + 2))).run (R := fun h => f_Law_law_18 xs L 0 64 f (nI i + (5 : Int32)) h) nx
      rw [if_neg e]
      clear e
      by_cases e : xs i &&& (31 : Int32) = (16 : Int32)
      · rw [if_pos e]
        exact (op_settle hI).run (R := fun h => f_Law_law_18 xs L 0 64 f (nI i + (5 : Int32)) h) nx
      rw [if_neg e]
      clear e
      by_cases e : xs i &&& (31 : Int32) = (17 : Int32)
      · rw [if_pos e]
        exact (op_exchange hI).run (R := fun h => f_Law_law_18 xs L 0 64 f (nI i + (5 : Int32)) h) nx
      rw [if_neg e]
      clear e
      by_cases e : xs i &&& (31 : Int32) = (18 : Int32)
      · rw [if_pos e, g1]
        simp only [sb]
        exact (op_image hI (xs (i + 1))).run (R := fun h => f_Law_law_18 xs L 0 64 f (nI i + (5 : Int32)) h) nx
      rw [if_neg e]
      clear e
      by_cases e : xs i &&& (31 : Int32) = (19 : Int32)
      · rw [if_pos e, g1]
        simp only [sb]
        exact (op_restore hI (xs (i + 1))).run (R := fun h => f_Law_law_18 xs L 0 64 f (nI i + (5 : Int32)) h) nx
      rw [if_neg e]
      clear e
      by_cases e : xs i &&& (31 : Int32) = (20 : Int32)
      · rw [if_pos e, g1]
        simp only [sb]
        exact (op_told hI (xs (i + 1))).run (R := fun h => f_Law_law_18 xs L 0 64 f (nI i + (5 : Int32)) h) nx
      rw [if_neg e]
      clear e
      exact nx A I sw hI
def T0 : Trs := ((0, fun _ => 0, fun _ => 0), (0, fun _ => 0, fun _ => 0), (0, fun _ => 0, fun _ => 0), 50)
theorem Inv0 : Inv (fun _ _ => 0) I0 false := by
  have nt : ∀ r, I0 r 2 = nI 0 → TreeIs (fun _ _ => 0) I0 r (0, fun _ => 0, fun _ => 0) := fun r h => ⟨h, Nat.zero_le 12, fun i hi => absurd hi (Nat.not_lt_zero i)⟩
  have mt : ∀ t, MTree (fun _ _ => 0) t (0, fun _ => 0, fun _ => 0) := fun t => ⟨rfl, Nat.zero_le 12, fun i hi => absurd hi (Nat.not_lt_zero i)⟩
  have vt : VT (0, fun _ => 0, fun _ => 0) := ⟨Nat.zero_le 12, fun i hi => absurd hi (Nat.not_lt_zero i), fun i j _ hj => absurd hj (Nat.not_lt_zero j)⟩
  refine ⟨0, fun _ => 0, T0, fun _ => none, ⟨?_, ⟨vt, vt, vt, by decide, by decide⟩, fun k U _ e => by cases e⟩, ⟨⟨rfl, by decide, fun i hi => absurd hi (Nat.not_lt_zero i)⟩, ⟨nt 4 rfl, nt _ rfl, nt _ rfl, rfl⟩, fun k hk => rfl, Or.inl rfl⟩, ⟨⟨rfl, by decide, fun i hi => absurd hi (Nat.not_lt_zero i)⟩, mt 0, mt 1, mt 2, rfl, fun k hk => rfl⟩⟩
  exact ⟨by decide, fun i hi => absurd hi (Nat.not_lt_zero i)⟩
end LW
