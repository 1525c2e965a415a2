section O12
variable {A I : Nat → Nat → Int32} {sw : Bool} {pn : Nat} {ps : Nat → Nat} {T : Trs} {K : Nat → Option Trs}
theorem Mo_mg (hv : VTs T) (hm : ModRel A I pn ps T K) : ∃ C L n d, f_Mo_merge (Wd A I sw) 64 = some (Wd C L sw) ∧ EntM C L n d ∧ IsMg (Sx (tD1 T) (tD2 T) T.1 T.2.1 T.2.2.1 (tS1 T) (tS2 T)) n d ∧ ModRel C L pn ps T K ∧ RFr A I C L := by
  obtain ⟨m1, m2, m3, m4, m5, m6⟩ := id hm
  obtain ⟨C, L, n, d, z1, z2, z3, z4, z5⟩ := Mo_merge (sw := sw) (D1 := tD1 T) (D2 := tD2 T) m2 m3 m4 m5 hv.2.2.2.2 hv.vx rfl rfl rfl rfl rfl rfl
  exact ⟨C, L, n, d, z1, z2, z3, hm.kept z4 (z5 64 5 (by decide)) (z5 64 3 (by decide)), fun a ha => z4 a (by omega), fun a ha => funext fun b => z5 a b (Or.inl (by omega))⟩
theorem EntM.cong {n : Nat} {d e : Nat → Ent} (h : EntM A I n d) (q : ∀ i, i < n → d i = e i) : EntM A I n e := ⟨h.1, h.2.1, fun i hi => by rw [← q i hi]; exact h.2.2 i hi⟩
/-- both have the same entries -/
theorem both_mg (hv : VTs T) {B J : Nat → Nat → Int32} (hc : Cache B J sw T) (hm : ModRel A I pn ps T K) (s2 : Bool) : ∃ C L n d m cp, f_Mo_merge (Wd A I s2) 64 = some (Wd C L s2) ∧ EntC B J n d ∧ EntM C L n d ∧ SoE d n ∧ ClC B J d n m cp ∧ ModRel C L pn ps T K ∧ RFr A I C L := by
  obtain ⟨n1, n2, st1, st2, n, d, m, cp, c1, c2, c3, c4⟩ := hc
  obtain ⟨C, L, k, e, z1, z2, z3, z4, z5⟩ := Mo_mg (sw := s2) hv hm
  obtain ⟨q1, q2⟩ := IsMg_uniq z3 c3
  subst q1
  exact ⟨C, L, k, d, m, cp, z1, c2, z2.cong q2, c3.1, c4, z4, z5⟩
def fld (e : Ent) (z : Int32) : Nat := if z = (0 : Int32) then e.1 else if z = (1 : Int32) then e.2.1 else if z = (2 : Int32) then e.2.2.1 else e.2.2.2
theorem Merge_tell {n : Nat} {d : Nat → Ent} (h : EntC A I n d) {i : Nat} (hi : i < n) (z : Int32) : f_Merge_tell (Wd A I sw) 56 (nI i) z = some (nI (fld (d i) z)) := by
  have hn := h.2.1
  obtain ⟨⟨r1, r2, r3, r4⟩, -⟩ := h.2.2 i hi
  have r2 : A 58 i = nI (d i).2.1 := r2
  have r3 : A 59 i = nI (d i).2.2.1 := r3
  have r4 : A 60 i = nI (d i).2.2.2 := r4
  unfold f_Merge_tell fld
  rw [kk_56, if_neg (neg_lt0 (by omega)), gg_56_4, sb, h.1, ifc (nI_ltI (by omega) (by omega)), if_pos hi, rr_56_0, sb, ga_57 (by omega), sb, r1, rr_56_1, sb, ga_58 (by omega), sb, r2, rr_56_2, sb, ga_59 (by omega), sb, r3, rr_56_3, sb, ga_60 (by omega), sb, r4]
  by_cases c0 : z = (0 : Int32)
  · rw [if_pos c0, if_pos c0]
  · by_cases c1 : z = (1 : Int32)
    · rw [if_neg c0, if_pos c1, if_neg c0, if_pos c1]
    · by_cases c2 : z = (2 : Int32)
      · rw [if_neg c0, if_neg c1, if_pos c2, if_neg c0, if_neg c1, if_pos c2]
      · rw [if_neg c0, if_neg c1, if_neg c2, if_neg c0, if_neg c1, if_neg c2]
theorem Merge_tell_no {n : Nat} {d : Nat → Ent} (h : EntC A I n d) {x : Int32} (hx : x < 0 ∨ nI n ≤ x) (z : Int32) : f_Merge_tell (Wd A I sw) 56 x z = some (-6) := by
  unfold f_Merge_tell
  rw [kk_56]
  by_cases c : x < 0
  · rw [if_pos c]
  · rcases hx with hx | hx
    · exact absurd hx c
    · rw [if_neg c, gg_56_4, sb, h.1, if_neg (Int32.not_lt.mpr hx)]
end O12
