section O4
variable {A I : Nat → Nat → Int32} {sw : Bool}
theorem op_exchange (h : Inv A I sw) : Both A I sw (fun h => f_MF_exchange h 0) (fun h => f_Mo_exchange h 64) := by
  obtain ⟨pn, ps, T, K, hv, hc, hm⟩ := h
  obtain ⟨k1, k2, k3, k4⟩ := id hc
  obtain ⟨v1, v2, v3⟩ := id hv
  have eI : ∀ a, a ≠ 0 → up2 I 0 9 0 a = I a := fun a a1 => up2_fn a1
  have s1 : RF (!sw) 3 1 = RF sw 3 2 := by cases sw <;> decide
  have s2 : RF (!sw) 3 2 = RF sw 3 1 := by cases sw <;> decide
  have n1 : RF sw 3 1 ≠ 0 := by cases sw <;> decide
  have n2 : RF sw 3 2 ≠ 0 := by cases sw <;> decide
  have run : f_MF_exchange (Wd A I sw) 0 = some (1, Wd A (up2 I 0 9 0) (!sw)) := by
    have a1 : sR (Wd A I sw) 0 3 1 (RF sw 3 2) = some (WT shT (up2 (RF sw) 3 1 (RF sw 3 2)) A I) := sR_T (by decide)
    have a2 : gR (WT shT (up2 (RF sw) 3 1 (RF sw 3 2)) A I) 8 0 1 = some 3 := by
      rw [gR_T (by decide), up2_n (by decide)]
      cases sw <;> rfl
    have a3 := sR_sw (A := A) (I := I) (sw := sw) (x := RF sw 3 2) (y := RF sw 3 1) rfl rfl
    rw [a1, sb] at a3
    unfold f_MF_exchange
    rw [kk_0, rr_0_1, sb, rr_3_1, sb, sb, sb, rr_3_2, sb, a1, sb, a2, sb, a3, sb, ss_0_9, sb]
  obtain ⟨m1, m2, m3, m4, m5, m6⟩ := id hm
  refine Both.mk (x := 1) (s2 := !sw) (B := A) (J := up2 I 0 9 0) (C := fun a b => if (a = 65 ∨ a = 66) ∧ 12 ≤ b ∧ b < 24 then A a (b + 12) else if (a = 65 ∨ a = 66) ∧ 24 ≤ b ∧ b < 36 then A a (b - 12) else if a = 67 ∧ b = 1 then A 67 2 else if a = 67 ∧ b = 2 then A 67 1 else A a b) (L := up2 I 0 9 0) (pn := pn) (ps := ps) (T := (T.1, T.2.2.1, T.2.1, T.2.2.2)) (K := K) run Mo_exchange ⟨v1, ⟨v2.1, v2.2.2.1, v2.2.1, v2.2.2.2.1, v2.2.2.2.2⟩, v3⟩ ⟨?_, ⟨?_, ?_, ?_, ?_⟩, ?_, Or.inl (up2_s _ _ _ _)⟩ ⟨?_, ?_, ?_, ?_, ?_, ?_⟩ ⟨fun a ha => ?_, fun _ _ => rfl⟩
  · unfold PadC at k1 ⊢
    rw [eI 1 (by decide)]
    exact k1
  · exact k2.1.kept (eI 4 (by decide)) rfl rfl
  · rw [s1]; exact k2.2.2.1.kept (eI _ n2) rfl rfl
  · rw [s2]; exact k2.2.1.kept (eI _ n1) rfl rfl
  · rw [eI 3 (by decide)]; exact k2.2.2.2
  · exact k3.kept (fun _ _ _ => rfl) (fun a ha _ => eI a (by omega))
  · refine ⟨by rw [eI 64 (by decide)]; exact m1.1, m1.2.1, fun i hi => ?_⟩
    simp
    exact m1.2.2 i hi
  · refine ⟨?_, m2.2.1, fun i hi => ?_⟩
    · simp; exact m2.1
    · have hi : i < T.1.1 := hi
      have := m2.2.1
      have q := m2.2.2 i hi
      have e1 : ¬ (12 ≤ i ∧ i < 24) := by omega
      have e2 : ¬ (24 ≤ i ∧ i < 36) := by omega
      simp [e1, e2]
      simpa using q
  · refine ⟨?_, m4.2.1, fun i hi => ?_⟩
    · simp; exact m4.1
    · have hi : i < T.2.2.1.1 := hi
      have := m4.2.1
      have q := m4.2.2 i hi
      have e1 : 12 ≤ 12 + i ∧ 12 + i < 24 := by omega
      simp only [Nat.mul_one, true_or, or_true, e1, and_self, if_true]
      rw [show 12 + i + 12 = 12 * 2 + i by omega]
      exact q
  · refine ⟨?_, m3.2.1, fun i hi => ?_⟩
    · simp; exact m3.1
    · have hi : i < T.2.1.1 := hi
      have := m3.2.1
      have q := m3.2.2 i hi
      have e1 : ¬ (12 ≤ 12 * 2 + i ∧ 12 * 2 + i < 24) := by omega
      have e2 : 24 ≤ 12 * 2 + i ∧ 12 * 2 + i < 36 := by omega
      simp only [true_or, or_true, e1, e2, and_false, and_self, if_true, if_false]
      rw [show 12 * 2 + i - 12 = 12 * 1 + i by omega]
      exact q
  · rw [eI 64 (by decide)]; exact m5
  · intro k hk
    have := m6 k hk
    unfold KM1 ImM at this ⊢
    simp
    simpa using this
  · funext b
    have e1 : ¬ (a = 65 ∨ a = 66) := by omega
    have e2 : ¬ a = 67 := by omega
    simp [e1, e2]
end O4
