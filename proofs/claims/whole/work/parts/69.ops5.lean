/-- where a holder's trees lie -/
def HRow (sw : Bool) (o a0 a1 a2 : Nat) : Prop := (∀ A I : Nat → Nat → Int32, gR (Wd A I sw) 0 o 0 = some a0 ∧ gR (Wd A I sw) 0 o 1 = some a1 ∧ gR (Wd A I sw) 0 o 2 = some a2) ∧ isOb 0 o = true ∧ isI 0 o 3 = true ∧ isT a0 = true ∧ isT a1 = true ∧ isT a2 = true ∧ a0 ≠ a1 ∧ a0 ≠ a2 ∧ a1 ≠ a2 ∧ o ≠ a0 ∧ o ≠ a1 ∧ o ≠ a2
theorem HRow3 (sw : Bool) : HRow sw 3 4 (RF sw 3 1) (RF sw 3 2) := ⟨fun A I => ⟨rr_3_0, rr_3_1, rr_3_2⟩, by decide, by decide, by decide, isT1 sw, isT2 sw, by cases sw <;> decide, by cases sw <;> decide, by cases sw <;> decide, by cases sw <;> decide, by cases sw <;> decide, by cases sw <;> decide⟩
theorem HRowI (sw : Bool) {k : Nat} (hk : k < 2) : HRow sw (13 + 10 * k) (14 + 10 * k) (17 + 10 * k) (20 + 10 * k) := by
  rcases (show k = 0 ∨ k = 1 by omega) with rfl | rfl
  · exact ⟨fun A I => ⟨rr_13_0, rr_13_1, rr_13_2⟩, by decide, by decide, by decide, by decide, by decide, by decide, by decide, by decide, by decide, by decide, by decide⟩
  · exact ⟨fun A I => ⟨rr_23_0, rr_23_1, rr_23_2⟩, by decide, by decide, by decide, by decide, by decide, by decide, by decide, by decide, by decide, by decide, by decide⟩
theorem Held_take {A I : Nat → Nat → Int32} {sw : Bool} {o a0 a1 a2 p b0 b1 b2 : Nat} {X Y Z : Tre} (ho : HRow sw o a0 a1 a2) (hp : HRow sw p b0 b1 b2) (hd : ∀ a, (a = a0 ∨ a = a1 ∨ a = a2) → ∀ b, (b = b0 ∨ b = b1 ∨ b = b2) → b ≠ a) (hq : p ≠ a0 ∧ p ≠ a1 ∧ p ≠ a2) (h0 : TreeIs A I b0 X) (h1 : TreeIs A I b1 Y) (h2 : TreeIs A I b2 Z) : ∃ A' I', f_Held_take (Wd A I sw) o p = some (Wd A' I' sw) ∧ TreeIs A' I' a0 X ∧ TreeIs A' I' a1 Y ∧ TreeIs A' I' a2 Z ∧ I' o 3 = I p 3 ∧ (∀ a, a ≠ a0 + 1 → a ≠ a0 + 2 → a ≠ a1 + 1 → a ≠ a1 + 2 → a ≠ a2 + 1 → a ≠ a2 + 2 → A' a = A a) ∧ ∀ a, a ≠ a0 → a ≠ a1 → a ≠ a2 → a ≠ o → I' a = I a := by
  obtain ⟨o1, o2, o3, o4, o5, o6, o7, o8, o9, o10, o11, o12⟩ := ho
  obtain ⟨p1, p2, p3, p4, p5, p6, -, -, -, -, -, -⟩ := hp
  obtain ⟨B1, J1, x1, x2, x3⟩ := Tree_take (sw := sw) o4 p4 (hd a0 (Or.inl rfl) b0 (Or.inl rfl)) h0
  have t1 := x3.other o4 p5 (hd a0 (Or.inl rfl) b1 (Or.inr (Or.inl rfl))) h1
  have t2 := x3.other o4 p6 (hd a0 (Or.inl rfl) b2 (Or.inr (Or.inr rfl))) h2
  obtain ⟨B2, J2, y1, y2, y3⟩ := Tree_take (sw := sw) o5 p5 (hd a1 (Or.inr (Or.inl rfl)) b1 (Or.inr (Or.inl rfl))) t1
  have u2 := y3.other o5 p6 (hd a1 (Or.inr (Or.inl rfl)) b2 (Or.inr (Or.inr rfl))) t2
  obtain ⟨B3, J3, z1, z2, z3⟩ := Tree_take (sw := sw) o6 p6 (hd a2 (Or.inr (Or.inr rfl)) b2 (Or.inr (Or.inr rfl))) u2
  have e0 : ∀ a, a ≠ o → up2 J3 o 3 (J3 p 3) a = J3 a := fun a ha => up2_fn ha
  refine ⟨B3, up2 J3 o 3 (J3 p 3), ?_, ?_, ?_, ?_, ?_, fun a q1 q2 q3 q4 q5 q6 => ?_, fun a q1 q2 q3 q4 => ?_⟩
  · unfold f_Held_take
    rw [ck_W o2, (o1 _ _).1, sb, (p1 _ _).1, sb, x1, sb, (o1 _ _).2.1, sb, (p1 _ _).2.1, sb, y1, sb, (o1 _ _).2.2, sb, (p1 _ _).2.2, sb, z1, sb, gI_W p3, sb, sI_W o3, sb]
  · exact (z3.other o6 o4 o8 (y3.other o5 o4 o7 x2)).kept (e0 a0 (fun q => o10 q.symm)) rfl rfl
  · exact (z3.other o6 o5 o9 y2).kept (e0 a1 (fun q => o11 q.symm)) rfl rfl
  · exact z2.kept (e0 a2 (fun q => o12 q.symm)) rfl rfl
  · rw [up2_s, z3.2 p hq.2.2, y3.2 p hq.2.1, x3.2 p hq.1]
  · rw [z3.1 a q5 q6, y3.1 a q3 q4, x3.1 a q1 q2]
  · rw [e0 a q4, z3.2 a q3, y3.2 a q2, x3.2 a q1]
