section O12
variable {A I : Nat → Nat → Int32} {sw : Bool} {pn : Nat} {ps : Nat → Nat} {T : Trs} {K : Nat → Option Trs}
theorem Mo_mg (hv : VTs T) (hm : ModRel A I pn ps T K) : ∃ C L n d, f_Mo_merge (Wd A I sw) 64 = some (Wd C L sw) ∧ EntM C L n d ∧ IsMg (Sx (tD1 T) (tD2 T) T.1 T.2.1 T.2.2.1 (tS1 T) (tS2 T)) n d ∧ ModRel C L pn ps T K ∧ RFr A I C L := by
  obtain ⟨m1, m2, m3, m4, m5, m6⟩ := id hm
  obtain ⟨C, L, n, d, z1, z2, z3, z4, z5⟩ := Mo_merge (sw := sw) (D1 := tD1 T) (D2 := tD2 T) m2 m3 m4 m5 hv.2.2.2.2 hv.vx rfl rfl rfl rfl rfl rfl
  exact ⟨C, L, n, d, z1, z2, z3, hm.kept z4 (z5 64 5 (by decide)) (z5 64 3 (by decide)), fun a ha => z4 a (by omega), fun a ha => funext fun b => z5 a b (Or.inl (by omega))⟩
theorem EntM.cong {n : Nat} {d e : Nat → Ent} (h : EntM A I n d) (q : ∀ i, i < n → d i = e i) : EntM A I n e := ⟨h.1, h.2.1, fun i hi => by rw [← q i hi]; exact h.2.2 i hi⟩
/-- both have the same entries -/
theorem both_mg (hv : VTs T) {B J : Nat → Nat → Int32} (hc : Cache B J sw T) (hm : ModRel A I pn ps T K) (s2 : Bool) : ∃ C L n d m cp, f_Mo_merge (Wd A I s2) 64 = some (Wd C L s2) ∧ EntC B J n d ∧ EntM C L n d ∧ SoE d n ∧ ClC B J d n m cp ∧ ModRel C L pn ps T K ∧ RFr A I C L := by
  obtain ⟨n1, n2, st1, st2, n, d, m, cp, c1, c2, c3, c4⟩ := hc
  obtain ⟨C, L, k, e, z1, z2, z3, z4, z5⟩ := Mo_mg (sw := s2) hv hm
  obtain ⟨q1, q2⟩ := IsMg_uniq z3 c3
  subst q1
  exact ⟨C, L, k, d, m, cp, z1, c2, z2.cong q2, c3.1, c4, z4, z5⟩
def fld (e : Ent) (z : Int32) : Nat := if z = (0 : Int32) then e.1 else if z = (1 : Int32) then e.2.1 else if z = (2 : Int32) then e.2.2.1 else e.2.2.2
end O12
