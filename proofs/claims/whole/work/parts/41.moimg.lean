section MI
variable {A I : Nat → Nat → Int32} {sw : Bool}
theorem passRow_r {q m n K : Nat} (hq : isAr false m q = true) (hm : m < 2 ^ 31) (hnm : n ≤ m) (hK : K + n ≤ 152) (hq79 : q ≠ 79) : ∀ (d j f : Nat) (I : Nat → Nat → Int32), j + d = n → d < f → I 64 26 = 0 → I 64 25 = nI (K + j) → f_Mo_passRow_2 64 q (nI n) f (nI j) (Wd (fun a b => if a = q ∧ b < j then A 79 (K + b) else A a b) I sw) = some (Wd (fun a b => if a = q ∧ b < n then A 79 (K + b) else A a b) (up2 I 64 25 (nI (K + n))) sw) := by
  intro d
  induction d with
  | zero =>
    intro j f I h1 h2 h26 h25
    obtain ⟨g, rfl⟩ : ∃ g, f = g + 1 := ⟨f - 1, by omega⟩
    have hj : j = n := by omega
    subst hj
    have e : up2 I 64 25 (nI (K + j)) = I := by
      funext a b
      unfold up2
      split
      · rename_i hc; rw [hc.1, hc.2, h25]
      · rfl
    rw [f_Mo_passRow_2, if_pos (Int32.le_refl _), e]
  | succ d ih =>
    intro j f I h1 h2 h26 h25
    obtain ⟨g, rfl⟩ : ∃ g, f = g + 1 := ⟨f - 1, by omega⟩
    have hjm : j < m := by omega
    rw [f_Mo_passRow_2, ifc (nI_leI (by omega) (by omega)), if_neg (by omega)]
    simp only [gg_64_26, sb, h26, rr_64_23, gg_64_25, h25, ga_79 (show K + j < 152 by omega)]
    rw [if_pos trivial]
    simp only [sb, gA_W hq hjm hm, sA_W hq hjm hm, rr_64_23, gg_64_25, h25, sa_79 (show K + j < 152 by omega), ss_64_25, add1]
    have e : up2 (up2 (fun a b => if a = q ∧ b < j then A 79 (K + b) else A a b) q j (if 79 = q ∧ K + j < j then A 79 (K + (K + j)) else A 79 (K + j))) 79 (K + j) (up2 (fun a b => if a = q ∧ b < j then A 79 (K + b) else A a b) q j (if 79 = q ∧ K + j < j then A 79 (K + (K + j)) else A 79 (K + j)) q j) = (fun a b => if a = q ∧ b < j + 1 then A 79 (K + b) else A a b) := by
      funext a b
      grind [up2]
    rw [e, ih (j + 1) g _ (by omega) (by omega) (by rw [up2_m (by omega)]; exact h26) (by rw [up2_s]; congr 1)]
    congr 2
    funext a b
    grind [up2]
theorem row0_w {q m n K : Nat} (hq : isAr false m q = true) (hm : m < 2 ^ 31) (hnm : n ≤ m) (hK : K + n ≤ 152) (hq79 : q ≠ 79) (h26 : I 64 26 = 1) (h25 : I 64 25 = nI K) : f_Mo_passRow (Wd A I sw) 64 q (nI n) = some (Wd (fun a b => if a = 79 ∧ K ≤ b ∧ b < K + n then A q (b - K) else A a b) (up2 I 64 25 (nI (K + n))) sw) := by
  have e := passRow_w (A := A) (sw := sw) hq hm hnm hK hq79 n 0 FU I (by omega) (by rw [FU_eq]; omega) h26 h25
  have e2 : (fun a b => if a = 79 ∧ K ≤ b ∧ b < K + 0 then A q (b - K) else A a b) = A := by
    funext a b
    rw [if_neg (by omega)]
  rw [e2] at e
  unfold f_Mo_passRow
  rw [kk_64]
  exact e
theorem row0_r {q m n K : Nat} (hq : isAr false m q = true) (hm : m < 2 ^ 31) (hnm : n ≤ m) (hK : K + n ≤ 152) (hq79 : q ≠ 79) (h26 : I 64 26 = 0) (h25 : I 64 25 = nI K) : f_Mo_passRow (Wd A I sw) 64 q (nI n) = some (Wd (fun a b => if a = q ∧ b < n then A 79 (K + b) else A a b) (up2 I 64 25 (nI (K + n))) sw) := by
  have e := passRow_r (A := A) (sw := sw) hq hm hnm hK hq79 n 0 FU I (by omega) (by rw [FU_eq]; omega) h26 h25
  have e2 : (fun a b => if a = q ∧ b < 0 then A 79 (K + b) else A a b) = A := by
    funext a b
    rw [if_neg (by omega)]
  rw [e2] at e
  unfold f_Mo_passRow
  rw [kk_64]
  exact e
theorem row_w {q m n K : Nat} (hq : isAr false m q = true) (hm : m < 2 ^ 31) (hnm : n ≤ m) (hK : K + n ≤ 152) (hq79 : q ≠ 79) (h26 : I 64 26 = 1) (h25 : I 64 25 = nI K) : ∃ A', f_Mo_passRow (Wd A I sw) 64 q (nI n) = some (Wd A' (up2 I 64 25 (nI (K + n))) sw) ∧ (∀ a, a ≠ 79 → A' a = A a) ∧ (∀ b, (b < K ∨ K + n ≤ b) → A' 79 b = A 79 b) ∧ ∀ j, j < n → A' 79 (K + j) = A q j := by
  refine ⟨_, row0_w hq hm hnm hK hq79 h26 h25, fun a ha => ?_, fun b hb => ?_, fun j hj => ?_⟩
  · funext b
    rw [if_neg (fun h => ha h.1)]
  · rw [if_neg (by omega)]
  · rw [if_pos ⟨rfl, by omega, by omega⟩, Nat.add_sub_cancel_left]
theorem row_r {q m n K : Nat} (hq : isAr false m q = true) (hm : m < 2 ^ 31) (hnm : n ≤ m) (hK : K + n ≤ 152) (hq79 : q ≠ 79) (h26 : I 64 26 = 0) (h25 : I 64 25 = nI K) : ∃ A', f_Mo_passRow (Wd A I sw) 64 q (nI n) = some (Wd A' (up2 I 64 25 (nI (K + n))) sw) ∧ (∀ a, a ≠ q → A' a = A a) ∧ ∀ j, j < n → A' q j = A 79 (K + j) := by
  refine ⟨_, row0_r hq hm hnm hK hq79 h26 h25, fun a ha => ?_, fun j hj => ?_⟩
  · funext b
    rw [if_neg (fun h => ha h.1)]
  · rw [if_pos ⟨rfl, hj⟩]
/-- all goes into the kept ones -/
theorem passAll_w {K : Nat} (hK : K + 76 ≤ 152) (h26 : I 64 26 = 1) (h25 : I 64 25 = nI K) : ∃ A' I', f_Mo_passAll (Wd A I sw) 64 = some (Wd A' I' sw) ∧ (∀ a, a ≠ 79 → A' a = A a) ∧ (∀ b, (b < K ∨ K + 76 ≤ b) → A' 79 b = A 79 b) ∧ (∀ j, j < 36 → A' 79 (K + j) = A 65 j ∧ A' 79 (K + 36 + j) = A 66 j) ∧ (∀ j, j < 3 → A' 79 (K + 72 + j) = A 67 j) ∧ A' 79 (K + 75) = I 64 3 ∧ (∀ a, a ≠ 64 → I' a = I a) ∧ ∀ b, b ≠ 25 → I' 64 b = I 64 b := by
  unfold f_Mo_passAll
  obtain ⟨A1, e1, p1, p2, p3⟩ := row_w (A := A) (I := I) (sw := sw) (K := K) (q := 65) (m := 36) (n := 36) (by decide) (by decide) (Nat.le_refl _) (by omega) (by decide) h26 h25
  obtain ⟨A2, e2, q1, q2, q3⟩ := row_w (A := A1) (I := up2 I 64 25 (nI (K + 36))) (sw := sw) (K := K + 36) (q := 66) (m := 36) (n := 36) (by decide) (by decide) (Nat.le_refl _) (by omega) (by decide) (by rw [up2_m (by omega)]; exact h26) (up2_s _ _ _ _)
  obtain ⟨A3, e3, r1, r2, r3⟩ := row_w (A := A2) (I := up2 (up2 I 64 25 (nI (K + 36))) 64 25 (nI (K + 36 + 36))) (sw := sw) (K := K + 36 + 36) (q := 67) (m := 3) (n := 3) (by decide) (by decide) (Nat.le_refl _) (by omega) (by decide) (by rw [up2_m (by omega), up2_m (by omega)]; exact h26) (up2_s _ _ _ _)
  generalize hI3 : up2 (up2 (up2 I 64 25 (nI (K + 36))) 64 25 (nI (K + 36 + 36))) 64 25 (nI (K + 36 + 36 + 3)) = I3 at e3
  have g25 : I3 64 25 = nI (K + 36 + 36 + 3) := by rw [← hI3, up2_s]
  have gb : ∀ b, b ≠ 25 → I3 64 b = I 64 b := fun b hb => by rw [← hI3, up2_m hb, up2_m hb, up2_m hb]
  have ga : ∀ a, a ≠ 64 → I3 a = I a := fun a ha => by rw [← hI3, up2_fn ha, up2_fn ha, up2_fn ha]
  rw [kk_64, rr_64_0, sb, show (36 : Int32) = nI 36 from rfl, e1, sb, rr_64_1, sb, e2, sb, rr_64_2, sb, show (3 : Int32) = nI 3 from rfl, e3, sb, gg_64_26, sb, gb 26 (by omega), h26, if_neg (by decide), gg_64_3, sb, sb, ss_64_3, sb, rr_64_23, sb, gg_64_25, sb, gg_64_3, sb, up2_s, up2_m (by omega), g25, sa_79 (by omega), sb]
  refine ⟨_, _, rfl, fun a ha => ?_, fun b hb => ?_, fun j hj => ⟨?_, ?_⟩, fun j hj => ?_, ?_, fun a ha => ?_, fun b hb => ?_⟩
  · rw [up2_fn ha, r1 a ha, q1 a ha, p1 a ha]
  · rw [up2_m (by omega), r2 b (by omega), q2 b (by omega), p2 b (by omega)]
  · rw [up2_m (by omega), r2 _ (by omega), q2 _ (by omega), p3 j hj]
  · rw [up2_m (by omega), r2 _ (by omega), q3 j hj, p1 66 (by decide)]
  · rw [up2_m (by omega), show K + 72 + j = K + 36 + 36 + j by omega, r3 j hj, q1 67 (by decide), p1 67 (by decide)]
  · rw [show K + 75 = K + 36 + 36 + 3 by omega, up2_s, gb 3 (by omega)]
  · rw [up2_fn ha, ga a ha]
  · by_cases hb3 : b = 3
    · subst hb3
      rw [up2_s, gb 3 (by omega)]
    · rw [up2_m hb3, gb b hb]
/-- all comes out of the kept ones -/
theorem passAll_r {K : Nat} (hK : K + 76 ≤ 152) (h26 : I 64 26 = 0) (h25 : I 64 25 = nI K) : ∃ A' I', f_Mo_passAll (Wd A I sw) 64 = some (Wd A' I' sw) ∧ (∀ a, a ≠ 65 → a ≠ 66 → a ≠ 67 → A' a = A a) ∧ (∀ j, j < 36 → A' 65 j = A 79 (K + j) ∧ A' 66 j = A 79 (K + 36 + j)) ∧ (∀ j, j < 3 → A' 67 j = A 79 (K + 72 + j)) ∧ I' 64 3 = A 79 (K + 75) ∧ (∀ a, a ≠ 64 → I' a = I a) ∧ ∀ b, b ≠ 25 → b ≠ 3 → I' 64 b = I 64 b := by
  unfold f_Mo_passAll
  obtain ⟨A1, e1, p1, p2⟩ := row_r (A := A) (I := I) (sw := sw) (K := K) (q := 65) (m := 36) (n := 36) (by decide) (by decide) (Nat.le_refl _) (by omega) (by decide) h26 h25
  obtain ⟨A2, e2, q1, q2⟩ := row_r (A := A1) (I := up2 I 64 25 (nI (K + 36))) (sw := sw) (K := K + 36) (q := 66) (m := 36) (n := 36) (by decide) (by decide) (Nat.le_refl _) (by omega) (by decide) (by rw [up2_m (by omega)]; exact h26) (up2_s _ _ _ _)
  obtain ⟨A3, e3, r1, r2⟩ := row_r (A := A2) (I := up2 (up2 I 64 25 (nI (K + 36))) 64 25 (nI (K + 36 + 36))) (sw := sw) (K := K + 36 + 36) (q := 67) (m := 3) (n := 3) (by decide) (by decide) (Nat.le_refl _) (by omega) (by decide) (by rw [up2_m (by omega), up2_m (by omega)]; exact h26) (up2_s _ _ _ _)
  generalize hI3 : up2 (up2 (up2 I 64 25 (nI (K + 36))) 64 25 (nI (K + 36 + 36))) 64 25 (nI (K + 36 + 36 + 3)) = I3 at e3
  have g25 : I3 64 25 = nI (K + 36 + 36 + 3) := by rw [← hI3, up2_s]
  have gb : ∀ b, b ≠ 25 → I3 64 b = I 64 b := fun b hb => by rw [← hI3, up2_m hb, up2_m hb, up2_m hb]
  have ga : ∀ a, a ≠ 64 → I3 a = I a := fun a ha => by rw [← hI3, up2_fn ha, up2_fn ha, up2_fn ha]
  have g79 : A3 79 = A 79 := by rw [r1 79 (by decide), q1 79 (by decide), p1 79 (by decide)]
  rw [kk_64, rr_64_0, sb, show (36 : Int32) = nI 36 from rfl, e1, sb, rr_64_1, sb, e2, sb, rr_64_2, sb, show (3 : Int32) = nI 3 from rfl, e3, sb, gg_64_26, sb, gb 26 (by omega), h26, if_pos rfl, rr_64_23, sb, gg_64_25, sb, g25, ga_79 (by omega), sb, sb, ss_64_3, sb, rr_64_23, sb, gg_64_25, sb, gg_64_3, sb, up2_s, up2_m (by omega), g25, sa_79 (by omega), sb]
  refine ⟨_, _, rfl, fun a h1 h2 h3 => ?_, fun j hj => ⟨?_, ?_⟩, fun j hj => ?_, ?_, fun a ha => ?_, fun b hb hb2 => ?_⟩
  · funext b
    by_cases c : a = 79 ∧ b = K + 36 + 36 + 3
    · obtain ⟨rfl, rfl⟩ := c
      rw [up2_s, g79]
    · have : up2 A3 79 (K + 36 + 36 + 3) (A3 79 (K + 36 + 36 + 3)) a b = A3 a b := by
        unfold up2
        rw [if_neg c]
      rw [this, r1 a h3, q1 a h2, p1 a h1]
  · rw [up2_n (by omega), r1 65 (by decide), q1 65 (by decide), p2 j hj]
  · rw [up2_n (by omega), r1 66 (by decide), q2 j hj, p1 79 (by decide)]
  · rw [up2_n (by omega), r2 j hj, q1 79 (by decide), p1 79 (by decide), show K + 36 + 36 + j = K + 72 + j by omega]
  · rw [up2_s, g79, show K + 36 + 36 + 3 = K + 75 by omega]
  · rw [up2_fn ha, ga a ha]
  · rw [up2_m hb2, gb b hb]
/-- the reference's exchange -/
theorem Mo_change {q m a b : Nat} (hq : isAr false m q = true) (hm : m < 2 ^ 31) (ha : a < m) (hb : b < m) : f_Mo_change (Wd A I sw) q (nI a) (nI b) = some (Wd (up2 (up2 A q a (A q b)) q b (A q a)) I sw) := by
  unfold f_Mo_change
  rw [gA_W hq ha hm, sb, gA_W hq hb hm, sb, sA_W hq ha hm, sb, sA_W hq hb hm, sb]
theorem Mo_exchange_2 : ∀ (d e f : Nat), e + d = 12 → d < f → f_Mo_exchange_2 64 f (nI e) (Wd (fun a b => if (a = 65 ∨ a = 66) ∧ 12 ≤ b ∧ b < 12 + e then A a (b + 12) else if (a = 65 ∨ a = 66) ∧ 24 ≤ b ∧ b < 24 + e then A a (b - 12) else A a b) I sw) = some (1, Wd (fun a b => if (a = 65 ∨ a = 66) ∧ 12 ≤ b ∧ b < 24 then A a (b + 12) else if (a = 65 ∨ a = 66) ∧ 24 ≤ b ∧ b < 36 then A a (b - 12) else if a = 67 ∧ b = 1 then A 67 2 else if a = 67 ∧ b = 2 then A 67 1 else A a b) I sw) := by
  intro d
  induction d with
  | zero =>
    intro e f h1 h2
    obtain ⟨g, rfl⟩ : ∃ g, f = g + 1 := ⟨f - 1, by omega⟩
    have he : e = 12 := by omega
    subst he
    rw [f_Mo_exchange_2, if_pos (by decide), rr_64_2, sb, show (1 : Int32) = nI 1 from rfl, show (2 : Int32) = nI 2 from rfl, Mo_change (m := 3) (by decide) (by decide) (by decide) (by decide), sb]
    congr 3
    funext a b
    grind [up2]
  | succ d ih =>
    intro e f h1 h2
    obtain ⟨g, rfl⟩ : ∃ g, f = g + 1 := ⟨f - 1, by omega⟩
    have s1 : (12 : Int32) + nI e = nI (12 + e) := nI_add 12 e
    have s2 : (24 : Int32) + nI e = nI (24 + e) := nI_add 24 e
    rw [f_Mo_exchange_2, ifc (ge12 (by omega)), if_neg (by omega), rr_64_0, sb, s1, s2, Mo_change (m := 36) (by decide) (by decide) (by omega) (by omega), sb, rr_64_1, sb, Mo_change (m := 36) (by decide) (by decide) (by omega) (by omega), sb, add1, ← ih (e + 1) g (by omega) (by omega)]
    congr 2
    funext a b
    by_cases h5 : a = 65
    · subst h5
      grind (splits := 20) [up2]
    · by_cases h6 : a = 66
      · subst h6
        grind (splits := 20) [up2]
      · simp [up2, h5, h6]
theorem Mo_exchange : f_Mo_exchange (Wd A I sw) 64 = some (1, Wd (fun a b => if (a = 65 ∨ a = 66) ∧ 12 ≤ b ∧ b < 24 then A a (b + 12) else if (a = 65 ∨ a = 66) ∧ 24 ≤ b ∧ b < 36 then A a (b - 12) else if a = 67 ∧ b = 1 then A 67 2 else if a = 67 ∧ b = 2 then A 67 1 else A a b) I sw) := by
  have e := Mo_exchange_2 (A := A) (I := I) (sw := sw) 12 0 FU (by omega) (by rw [FU_eq]; omega)
  have e2 : (fun a b => if (a = 65 ∨ a = 66) ∧ 12 ≤ b ∧ b < 12 + 0 then A a (b + 12) else if (a = 65 ∨ a = 66) ∧ 24 ≤ b ∧ b < 24 + 0 then A a (b - 12) else A a b) = A := by
    funext a b
    rw [if_neg (by omega), if_neg (by omega)]
  rw [e2] at e
  unfold f_Mo_exchange
  rw [kk_64]
  exact e
end MI
