/-- where a holder's trees lie -/
def HRow (sw : Bool) (o a0 a1 a2 : Nat) : Prop := (∀ A I : Nat → Nat → Int32, gR (Wd A I sw) 0 o 0 = some a0 ∧ gR (Wd A I sw) 0 o 1 = some a1 ∧ gR (Wd A I sw) 0 o 2 = some a2) ∧ isOb 0 o = true ∧ isI 0 o 3 = true ∧ isT a0 = true ∧ isT a1 = true ∧ isT a2 = true ∧ a0 ≠ a1 ∧ a0 ≠ a2 ∧ a1 ≠ a2 ∧ o ≠ a0 ∧ o ≠ a1 ∧ o ≠ a2
theorem HRow3 (sw : Bool) : HRow sw 3 4 (RF sw 3 1) (RF sw 3 2) := ⟨fun A I => ⟨rr_3_0, rr_3_1, rr_3_2⟩, by decide, by decide, by decide, isT1 sw, isT2 sw, by cases sw <;> decide, by cases sw <;> decide, by cases sw <;> decide, by cases sw <;> decide, by cases sw <;> decide, by cases sw <;> decide⟩
theorem HRowI (sw : Bool) {k : Nat} (hk : k < 2) : HRow sw (13 + 10 * k) (14 + 10 * k) (17 + 10 * k) (20 + 10 * k) := by
  rcases (show k = 0 ∨ k = 1 by omega) with rfl | rfl
  · exact ⟨fun A I => ⟨rr_13_0, rr_13_1, rr_13_2⟩, by decide, by decide, by decide, by decide, by decide, by decide, by decide, by decide, by decide, by decide, by decide⟩
  · exact ⟨fun A I => ⟨rr_23_0, rr_23_1, rr_23_2⟩, by decide, by decide, by decide, by decide, by decide, by decide, by decide, by decide, by decide, by decide, by decide⟩
theorem Held_take {A I : Nat → Nat → Int32} {sw : Bool} {o a0 a1 a2 p b0 b1 b2 : Nat} {X Y Z : Tre} (ho : HRow sw o a0 a1 a2) (hp : HRow sw p b0 b1 b2) (hd : ∀ a, (a = a0 ∨ a = a1 ∨ a = a2) → ∀ b, (b = b0 ∨ b = b1 ∨ b = b2) → b ≠ a) (hq : p ≠ a0 ∧ p ≠ a1 ∧ p ≠ a2) (h0 : TreeIs A I b0 X) (h1 : TreeIs A I b1 Y) (h2 : TreeIs A I b2 Z) : ∃ A' I', f_Held_take (Wd A I sw) o p = some (Wd A' I' sw) ∧ TreeIs A' I' a0 X ∧ TreeIs A' I' a1 Y ∧ TreeIs A' I' a2 Z ∧ I' o 3 = I p 3 ∧ (∀ a, a ≠ a0 + 1 → a ≠ a0 + 2 → a ≠ a1 + 1 → a ≠ a1 + 2 → a ≠ a2 + 1 → a ≠ a2 + 2 → A' a = A a) ∧ ∀ a, a ≠ a0 → a ≠ a1 → a ≠ a2 → a ≠ o → I' a = I a := by
  obtain ⟨o1, o2, o3, o4, o5, o6, o7, o8, o9, o10, o11, o12⟩ := ho
  obtain ⟨p1, p2, p3, p4, p5, p6, -, -, -, -, -, -⟩ := hp
  obtain ⟨B1, J1, x1, x2, x3⟩ := Tree_take (sw := sw) o4 p4 (hd a0 (Or.inl rfl) b0 (Or.inl rfl)) h0
  have t1 := x3.other o4 p5 (hd a0 (Or.inl rfl) b1 (Or.inr (Or.inl rfl))) h1
  have t2 := x3.other o4 p6 (hd a0 (Or.inl rfl) b2 (Or.inr (Or.inr rfl))) h2
  obtain ⟨B2, J2, y1, y2, y3⟩ := Tree_take (sw := sw) o5 p5 (hd a1 (Or.inr (Or.inl rfl)) b1 (Or.inr (Or.inl rfl))) t1
  have u2 := y3.other o5 p6 (hd a1 (Or.inr (Or.inl rfl)) b2 (Or.inr (Or.inr rfl))) t2
  obtain ⟨B3, J3, z1, z2, z3⟩ := Tree_take (sw := sw) o6 p6 (hd a2 (Or.inr (Or.inr rfl)) b2 (Or.inr (Or.inr rfl))) u2
  have e0 : ∀ a, a ≠ o → up2 J3 o 3 (J3 p 3) a = J3 a := fun a ha => up2_fn ha
  refine ⟨B3, up2 J3 o 3 (J3 p 3), ?_, ?_, ?_, ?_, ?_, fun a q1 q2 q3 q4 q5 q6 => ?_, fun a q1 q2 q3 q4 => ?_⟩
  · unfold f_Held_take
    rw [ck_W o2, (o1 _ _).1, sb, (p1 _ _).1, sb, x1, sb, (o1 _ _).2.1, sb, (p1 _ _).2.1, sb, y1, sb, (o1 _ _).2.2, sb, (p1 _ _).2.2, sb, z1, sb, gI_W p3, sb, sI_W o3, sb]
  · exact (z3.other o6 o4 o8 (y3.other o5 o4 o7 x2)).kept (e0 a0 (fun q => o10 q.symm)) rfl rfl
  · exact (z3.other o6 o5 o9 y2).kept (e0 a1 (fun q => o11 q.symm)) rfl rfl
  · exact z2.kept (e0 a2 (fun q => o12 q.symm)) rfl rfl
  · rw [up2_s, z3.2 p hq.2.2, y3.2 p hq.2.1, x3.2 p hq.1]
  · rw [z3.1 a q5 q6, y3.1 a q3 q4, x3.1 a q1 q2]
  · rw [e0 a q4, z3.2 a q3, y3.2 a q2, x3.2 a q1]
/-- of the class's cells only the kept images were changed -/
def HFr (A I A' I' : Nat → Nat → Int32) : Prop := (∀ a, (a < 13 ∨ 34 ≤ a) → A' a = A a) ∧ ∀ a, (a < 13 ∨ 34 ≤ a) → I' a = I a
theorem HFr.tree {A I A' I' : Nat → Nat → Int32} (f : HFr A I A' I') {r : Nat} {X : Tre} (hr : r ≤ 10) (h : TreeIs A I r X) : TreeIs A' I' r X := h.kept (f.2 r (by omega)) (f.1 _ (by omega)) (f.1 _ (by omega))
theorem HFr.cls {A I A' I' : Nat → Nat → Int32} {sw : Bool} {pn : Nat} {ps : Nat → Nat} {T : Trs} {K K' : Nat → Option Trs} (f : HFr A I A' I') (h : ClsRel A I sw pn ps T K) (hk : KC A' I' K') : ClsRel A' I' sw pn ps T K' := by
  obtain ⟨h1, h2, h3, h4⟩ := h
  have r1 : RF sw 3 1 ≤ 10 := by cases sw <;> decide
  have r2 : RF sw 3 2 ≤ 10 := by cases sw <;> decide
  refine ⟨?_, ⟨f.tree (by decide) h2.1, f.tree r1 h2.2.1, f.tree r2 h2.2.2.1, by rw [f.2 3 (by decide)]; exact h2.2.2.2⟩, hk, ?_⟩
  · unfold PadC at h1 ⊢
    rw [f.2 1 (by decide), f.1 2 (by decide)]
    exact h1
  · rw [f.2 0 (by decide)]
    rcases h4 with h4 | ⟨h4, n1, n2, st1, st2, n, d, m, cp, a1, a2, a3, a4⟩
    · exact Or.inl h4
    · refine Or.inr ⟨h4, n1, n2, st1, st2, n, d, m, cp, ?_, a2.kept (f.1 57 (by decide)) (f.1 58 (by decide)) (f.1 59 (by decide)) (f.1 60 (by decide)) (by rw [f.2 56 (by decide)]), a3, ?_⟩
      · obtain ⟨x1, x2, x3, x4, x5, x6, x7, x8, x9⟩ := a1
        refine ⟨f.tree (by decide) x1, f.tree r1 x2, f.tree r2 x3, fun i hi => ?_, fun i hi => ?_, x6.kept (by rw [f.2 40 (by decide)]) (f.1 41 (by decide)) (f.1 42 (by decide)), x7.kept (by rw [f.2 50 (by decide)]) (f.1 51 (by decide)) (f.1 52 (by decide)), fun k hk => ?_, fun k hk => ?_⟩
        · rw [f.1 (35 + 1) (by decide), f.1 (35 + 2) (by decide), f.1 (35 + 3) (by decide)]; exact x4 i hi
        · rw [f.1 (45 + 1) (by decide), f.1 (45 + 2) (by decide), f.1 (45 + 3) (by decide)]; exact x5 i hi
        · rw [f.1 (40 + 3) (by decide)]; exact x8 k hk
        · rw [f.1 (50 + 3) (by decide)]; exact x9 k hk
      · unfold ClC at a4 ⊢
        rw [f.2 56 (by decide), f.1 61 (by decide), f.1 62 (by decide)]
        exact a4
section O5
variable {A I : Nat → Nat → Int32} {sw : Bool}
/-- 0 or 1, or neither -/
theorem two (x : Int32) : (∃ k, k < 2 ∧ x = nI k) ∨ (x < 0 ∨ nI 2 ≤ x) := by
  rcases pk_ix x (n := 2) (by decide) with h | h | ⟨j, h1, h2⟩
  · exact Or.inr (Or.inl h)
  · exact Or.inr (Or.inr h)
  · exact Or.inl ⟨j, h1, h2⟩
theorem in01 {k : Nat} (hk : k < 2) : f_Mo_in (nI k).toInt64 (0 : Int64) (1 : Int64) = some 1 := by
  rw [inN (a := 0) (b := 1) (lo := 0) (hi := 1) rfl rfl (by omega) (by decide) (by decide), if_pos ⟨by omega, by omega⟩]
theorem in01_no {x : Int32} (h : x < 0 ∨ nI 2 ≤ x) : f_Mo_in x.toInt64 (0 : Int64) (1 : Int64) = some 0 := by
  rw [inL x 0 (nI 1) (a := 0) (b := 1) rfl rfl, if_neg (out_cond (n := 1) (by decide) h (by decide))]
theorem MF_imageOf {k : Nat} (hk : k < 2) : f_MF_imageOf (Wd A I sw) 0 (nI k) = some (13 + 10 * k) := by
  unfold f_MF_imageOf
  rcases (show k = 0 ∨ k = 1 by omega) with rfl | rfl
  · rw [kk_0, if_pos (show nI 0 = (0 : Int32) from rfl), rr_0_2, sb, sb]
  · rw [kk_0, if_neg (show ¬ nI 1 = (0 : Int32) by decide), rr_0_3, sb, sb]
theorem op_image (h : Inv A I sw) (x : Int32) : Both A I sw (fun h => f_MF_image h 0 x) (fun h => f_Mo_image h 64 x) := by
  obtain ⟨pn, ps, T, K, hv, hc, hm⟩ := h
  rcases two x with ⟨k, hk, rfl⟩ | q
  · obtain ⟨k1, k2, k3, k4⟩ := id hc
    have hdis : ∀ a, (a = 14 + 10 * k ∨ a = 17 + 10 * k ∨ a = 20 + 10 * k) → ∀ b, (b = 4 ∨ b = RF sw 3 1 ∨ b = RF sw 3 2) → b ≠ a := by
      intro a ha b hb
      have r1 : RF sw 3 1 = 7 ∨ RF sw 3 1 = 10 := by cases sw <;> decide
      have r2 : RF sw 3 2 = 7 ∨ RF sw 3 2 = 10 := by cases sw <;> decide
      omega
    obtain ⟨B, J, z1, z2, z3, z4, z5, z6, z7⟩ := Held_take (sw := sw) (HRowI sw hk) (HRow3 sw) hdis ⟨by omega, by omega, by omega⟩ k2.1 k2.2.1 k2.2.2.1
    have fr : HFr A I (up2 B 33 k 1) J := ⟨fun a ha => by rw [up2_fn (show a ≠ 33 by omega)]; exact z6 a (by omega) (by omega) (by omega) (by omega) (by omega) (by omega), fun a ha => z7 a (by omega) (by omega) (by omega) (by omega)⟩
    have cf : CFr A I (up2 B 33 k 1) J := ⟨fun a ha => fr.1 a (by omega), fun a ha => fr.2 a (by omega)⟩
    have hm2 := cf.mod hm
    obtain ⟨m1, m2, m3, m4, m5, m6⟩ := id hm2
    have e25 : up2 (up2 J 64 25 (nI (76 * k))) 64 26 1 64 25 = nI (76 * k) := by rw [up2_m (by decide), up2_s]
    obtain ⟨C, L, w1, w2, w3, w4, w5, w6, w7, w8⟩ := passAll_w (A := up2 B 33 k 1) (I := up2 (up2 J 64 25 (nI (76 * k))) 64 26 1) (sw := sw) (K := 76 * k) (by omega) (up2_s _ _ _ _) e25
    have eL : ∀ b, b ≠ 25 → b ≠ 26 → L 64 b = J 64 b := fun b b1 b2 => by rw [w8 b b1, up2_m b2, up2_m b1]
    refine Both.mk (x := 1) (B := up2 B 33 k 1) (J := J) (C := up2 C 80 k 1) (L := L) (pn := pn) (ps := ps) (T := T) (K := fun j => if j = k then some T else K j) ?_ ?_ ⟨hv.1, hv.2.1, fun j U hj e => ?_⟩ (fr.cls hc (fun j hj => ?_)) ⟨?_, ?_, ?_, ?_, ?_, ?_⟩ ⟨fun a ha => ?_, fun a ha => ?_⟩
    · unfold f_MF_image
      rw [kk_0, if_neg (neg_lt0 (by omega)), ifc (lt2 (by omega)), if_pos hk, MF_imageOf hk, sb, rr_0_1, sb, z1, sb, rr_0_4, sb, sa_33 hk, sb, nar_1]
    · unfold f_Mo_image
      rw [kk_64, in01 hk, sb, if_neg (show ¬ (1 : Int32) = 0 by decide), show (76 : Int32) * nI k = nI (76 * k) from pk_mul 76 k, ss_64_25, sb, ss_64_26, sb, w1, sb, rr_64_24, sb, sa_80 hk, sb, nar_1]
    · dsimp only at e
      by_cases c : j = k
      · rw [if_pos c] at e; cases e; exact hv.2.1
      · rw [if_neg c] at e; exact hv.2.2 j U hj e
    · by_cases c : j = k
      · rw [if_pos c, c]
        exact ⟨up2_s _ _ _ _, z2.kept rfl (up2_fn (by omega)) (up2_fn (by omega)), z3.kept rfl (up2_fn (by omega)) (up2_fn (by omega)), z4.kept rfl (up2_fn (by omega)) (up2_fn (by omega)), by rw [z5]; exact k2.2.2.2⟩
      · rw [if_neg c]
        have q := k3 j hj
        have e33 : up2 B 33 k 1 33 j = A 33 j := by rw [up2_m c, z6 33 (by omega) (by omega) (by omega) (by omega) (by omega) (by omega)]
        unfold KC1 at q ⊢
        rw [e33]
        split
        · rename_i e; rw [e] at q; exact q
        · rename_i U e
          rw [e] at q
          obtain ⟨b1, b2, b3, b4, b5⟩ := q
          have fA : ∀ a, a ≠ 33 → (a < 14 + 10 * k ∨ 22 + 10 * k < a) → up2 B 33 k 1 a = A a := fun a a1 a2 => by rw [up2_fn a1]; exact z6 a (by omega) (by omega) (by omega) (by omega) (by omega) (by omega)
          have fI : ∀ a, (a < 13 + 10 * k ∨ 22 + 10 * k < a) → J a = I a := fun a a2 => z7 a (by omega) (by omega) (by omega) (by omega)
          exact ⟨b1, b2.kept (fI _ (by omega)) (fA _ (by omega) (by omega)) (fA _ (by omega) (by omega)), b3.kept (fI _ (by omega)) (fA _ (by omega) (by omega)) (fA _ (by omega) (by omega)), b4.kept (fI _ (by omega)) (fA _ (by omega) (by omega)) (fA _ (by omega) (by omega)), by rw [fI _ (by omega)]; exact b5⟩
    · unfold PadM at m1 ⊢
      rw [eL 5 (by decide) (by decide), up2_fn (by decide), w2 68 (by decide)]
      exact m1
    · unfold MTree at m2 ⊢
      rw [up2_fn (show 65 ≠ 80 by decide), up2_fn (show 66 ≠ 80 by decide), up2_fn (show 67 ≠ 80 by decide), w2 65 (by decide), w2 66 (by decide), w2 67 (by decide)]
      exact m2
    · unfold MTree at m3 ⊢
      rw [up2_fn (show 65 ≠ 80 by decide), up2_fn (show 66 ≠ 80 by decide), up2_fn (show 67 ≠ 80 by decide), w2 65 (by decide), w2 66 (by decide), w2 67 (by decide)]
      exact m3
    · unfold MTree at m4 ⊢
      rw [up2_fn (show 65 ≠ 80 by decide), up2_fn (show 66 ≠ 80 by decide), up2_fn (show 67 ≠ 80 by decide), w2 65 (by decide), w2 66 (by decide), w2 67 (by decide)]
      exact m4
    · rw [eL 3 (by decide) (by decide)]; exact m5
    · intro j hj
      dsimp only
      by_cases c : j = k
      · rw [if_pos c, c]
        refine ⟨up2_s _ _ _ _, up2 B 33 k 1, m2, m3, m4, fun i hi => ?_, fun i hi => ?_, ?_⟩
        · rw [up2_fn (by decide)]; exact w4 i hi
        · rw [up2_fn (by decide)]; exact w5 i hi
        · rw [up2_fn (by decide), w6, up2_m (by decide), up2_m (by decide)]; exact m5
      · rw [if_neg c]
        have q := m6 j hj
        have e80 : up2 C 80 k 1 80 j = up2 B 33 k 1 80 j := by rw [up2_m c, w2 80 (by decide)]
        unfold KM1 at q ⊢
        rw [e80]
        split
        · rename_i e; rw [e] at q; exact q
        · rename_i U e
          rw [e] at q
          obtain ⟨b1, P, b2, b3, b4, b5, b6, b7⟩ := q
          have f79 : ∀ b, (b < 76 * k ∨ 76 * k + 76 ≤ b) → up2 C 80 k 1 79 b = up2 B 33 k 1 79 b := fun b hb => by rw [up2_n (by decide)]; exact w3 b hb
          exact ⟨b1, P, b2, b3, b4, fun i hi => by rw [f79 _ (by omega), f79 _ (by omega)]; exact b5 i hi, fun i hi => by rw [f79 _ (by omega)]; exact b6 i hi, by rw [f79 _ (by omega)]; exact b7⟩
    · rw [up2_fn (by omega)]; exact w2 a (by omega)
    · rw [w7 a (by omega), up2_fn (by omega), up2_fn (by omega)]
  · refine Both.mk (x := -2) (B := A) (J := I) (C := A) (L := I) ?_ ?_ hv hc hm RFr.rf
    · unfold f_MF_image
      rw [kk_0]
      rcases q with q | q
      · rw [if_pos q]
      · have g0 : ¬ x < (0 : Int32) := fun z => by
          rw [Int32.lt_iff_toInt_lt] at z
          rw [Int32.le_iff_toInt_le, nI_toInt (by decide)] at q
          have : (0 : Int32).toInt = 0 := rfl
          omega
        rw [if_neg g0, if_neg (show ¬ x < (2 : Int32) from Int32.not_lt.mpr q)]
    · unfold f_Mo_image
      rw [kk_64, in01_no q, sb, if_pos rfl]
end O5
