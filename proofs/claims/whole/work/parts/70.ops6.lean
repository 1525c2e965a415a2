section O6
variable {A I : Nat → Nat → Int32} {sw : Bool}
theorem op_restore (h : Inv A I sw) (x : Int32) : Both A I sw (fun h => f_MF_restore h 0 x) (fun h => f_Mo_restore h 64 x) := by
  obtain ⟨pn, ps, T, K, hv, hc, hm⟩ := h
  rcases two x with ⟨k, hk, rfl⟩ | q
  · obtain ⟨k1, k2, k3, k4⟩ := id hc
    have c33 := k3 k hk
    have c80 := hm.2.2.2.2.2 k hk
    cases eK : K k with
    | none =>
      rw [eK] at c33 c80
      have c33 : A 33 k = 0 := c33
      have c80 : A 80 k = 0 := c80
      refine Both.mk (x := -3) (B := A) (J := I) (C := A) (L := I) ?_ ?_ hv hc hm RFr.rf
      · unfold f_MF_restore
        rw [kk_0, if_neg (neg_lt0 (by omega)), ifc (lt2 (by omega)), if_pos hk, rr_0_4, sb, ga_33 hk, sb, c33, if_pos rfl]
      · unfold f_Mo_restore
        rw [kk_64, in01 hk, sb, if_neg (show ¬ (1 : Int32) = 0 by decide), rr_64_24, sb, ga_80 hk, sb, c80, if_pos rfl]
    | some U =>
      rw [eK] at c33 c80
      obtain ⟨i1, i2, i3, i4, i5⟩ := c33
      obtain ⟨r1, r2⟩ : (RF sw 3 1 = 7 ∨ RF sw 3 1 = 10) ∧ (RF sw 3 2 = 7 ∨ RF sw 3 2 = 10) := by cases sw <;> decide
      have hdis : ∀ a, (a = 4 ∨ a = RF sw 3 1 ∨ a = RF sw 3 2) → ∀ b, (b = 14 + 10 * k ∨ b = 17 + 10 * k ∨ b = 20 + 10 * k) → b ≠ a := by
        intro a ha b hb
        omega
      obtain ⟨B, J, z1, z2, z3, z4, z5, z6, z7⟩ := Held_take (sw := sw) (HRow3 sw) (HRowI sw hk) hdis ⟨by omega, by omega, by omega⟩ i2 i3 i4
      have fA : ∀ a, (a < 4 ∨ 13 ≤ a) → B a = A a := fun a ha => z6 a (by omega) (by omega) (by omega) (by omega) (by omega) (by omega)
      have fI : ∀ a, a ≠ 0 → (a < 3 ∨ 13 ≤ a) → up2 J 0 9 0 a = I a := fun a a0 ha => by rw [up2_fn a0]; exact z7 a (by omega) (by omega) (by omega) (by omega)
      have cf : CFr A I B (up2 J 0 9 0) := ⟨fun a ha => fA a (by omega), fun a ha => fI a (by omega) (by omega)⟩
      have hm2 := cf.mod hm
      obtain ⟨m1, m2, m3, m4, m5, m6⟩ := id hm2
      have q80 := m6 k hk
      rw [eK] at q80
      obtain ⟨s1, P, s2, s3, s4, s5, s6, s7⟩ := q80
      have e25 : up2 (up2 (up2 J 0 9 0) 64 25 (nI (76 * k))) 64 26 0 64 25 = nI (76 * k) := by rw [up2_m (by decide), up2_s]
      obtain ⟨C, L, w1, w2, w3, w4, w5, w6, w7⟩ := passAll_r (A := B) (I := up2 (up2 (up2 J 0 9 0) 64 25 (nI (76 * k))) 64 26 0) (sw := sw) (K := 76 * k) (by omega) (up2_s _ _ _ _) e25
      have mt : ∀ t X, t < 3 → MTree P t X → MTree C t X := fun t X ht hX => by
        have hb := hX.2.1
        refine ⟨?_, hb, fun i hi => ?_⟩
        · rw [w4 t ht, s6 t ht]; exact hX.1
        · rw [(w3 (12 * t + i) (by omega)).1, (w3 (12 * t + i) (by omega)).2, (s5 (12 * t + i) (by omega)).1, (s5 (12 * t + i) (by omega)).2]
          exact hX.2.2 i hi
      have e0 : ∀ a, a ≠ 0 → up2 J 0 9 0 a = J a := fun a ha => up2_fn ha
      refine Both.mk (x := 1) (s2 := sw) (B := B) (J := up2 J 0 9 0) (C := C) (L := L) (pn := pn) (ps := ps) (T := U) (K := K) ?_ ?_ ⟨hv.1, hv.2.2 k U hk eK, hv.2.2⟩ ⟨?_, ⟨?_, ?_, ?_, ?_⟩, ?_, Or.inl (up2_s _ _ _ _)⟩ ⟨?_, ?_, ?_, ?_, ?_, ?_⟩ ⟨fun a ha => ?_, fun a ha => ?_⟩
      · unfold f_MF_restore
        rw [kk_0, if_neg (neg_lt0 (by omega)), ifc (lt2 (by omega)), if_pos hk, rr_0_4, sb, ga_33 hk, sb, i1, if_neg (show ¬ (1 : Int32) = 0 by decide), rr_0_1, sb, MF_imageOf hk, sb, z1, sb, ss_0_9, sb]
      · unfold f_Mo_restore
        rw [kk_64, in01 hk, sb, if_neg (show ¬ (1 : Int32) = 0 by decide), rr_64_24, sb, ga_80 hk, sb, s1, if_neg (show ¬ (1 : Int32) = 0 by decide), show (76 : Int32) * nI k = nI (76 * k) from pk_mul 76 k, ss_64_25, sb, ss_64_26, sb, w1, sb]
      · unfold PadC at k1 ⊢
        rw [fI 1 (by decide) (by decide), fA 2 (by decide)]
        exact k1
      · exact z2.kept (e0 4 (by decide)) rfl rfl
      · exact z3.kept (e0 _ (by omega)) rfl rfl
      · exact z4.kept (e0 _ (by omega)) rfl rfl
      · rw [e0 3 (by decide), z5]; exact i5
      · exact k3.kept (fun a ha _ => fA a (by omega)) (fun a ha _ => fI a (by omega) (by omega))
      · unfold PadM at m1 ⊢
        rw [w7 5 (by decide) (by decide), up2_m (by decide), up2_m (by decide), w2 68 (by decide) (by decide) (by decide)]
        exact m1
      · exact mt 0 _ (by decide) s2
      · exact mt 1 _ (by decide) s3
      · exact mt 2 _ (by decide) s4
      · rw [w5, s7]
      · unfold KM KM1 ImM at m6 ⊢
        rw [w2 79 (by decide) (by decide) (by decide), w2 80 (by decide) (by decide) (by decide)]
        exact m6
      · exact w2 a (by omega) (by omega) (by omega)
      · rw [w6 a (by omega), up2_fn (by omega), up2_fn (by omega)]
  · refine Both.mk (x := -2) (B := A) (J := I) (C := A) (L := I) ?_ ?_ hv hc hm RFr.rf
    · unfold f_MF_restore
      rw [kk_0]
      rcases q with q | q
      · rw [if_pos q]
      · have g0 : ¬ x < (0 : Int32) := fun z => by
          rw [Int32.lt_iff_toInt_lt] at z
          rw [Int32.le_iff_toInt_le, nI_toInt (by decide)] at q
          have : (0 : Int32).toInt = 0 := rfl
          omega
        rw [if_neg g0, if_neg (show ¬ x < (2 : Int32) from Int32.not_lt.mpr q)]
    · unfold f_Mo_restore
      rw [kk_64, in01_no q, sb, if_pos rfl]
end O6
