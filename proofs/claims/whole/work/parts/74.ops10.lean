section O10
variable {A I : Nat → Nat → Int32} {sw : Bool} {pn : Nat} {ps : Nat → Nat} {T : Trs} {K : Nat → Option Trs}
theorem Cache.moves (h : Cache A I sw T) {t : Nat} (h1 : 1 ≤ t) (ht : t < 3) : ∃ n st, MovesIs A I (mR t) (tF T t) n st ∧ RoundsIs A (mR t) (rnd (tF T t) (tF1 T) (tF2 T)) n st := by
  obtain ⟨n1, n2, st1, st2, n, d, m, cp, c, -⟩ := h
  rcases (show t = 1 ∨ t = 2 by omega) with rfl | rfl
  · exact ⟨n1, st1, c.2.2.2.2.2.1, c.2.2.2.2.2.2.2.1⟩
  · exact ⟨n2, st2, c.2.2.2.2.2.2.1, c.2.2.2.2.2.2.2.2⟩
theorem tF_v (hv : VTs T) {t : Nat} (h1 : 1 ≤ t) (ht : t < 3) : ∀ F G, tF T t F = some G → G ≤ 444 ∧ vF G = true := by
  have vx := hv.vx
  rcases (show t = 1 ∨ t = 2 by omega) with rfl | rfl
  · exact vx.2.2.2.2.2.1
  · exact vx.2.2.2.2.2.2
theorem Mo_both (hv : VTs T) (hm : ModRel A I pn ps T K) : ∃ C, f_Mo_findBoth (Wd A I sw) 64 = some (Wd C I sw) ∧ CxM C T.1 T.2.1 T.2.2.1 (tS1 T) (tS2 T) (tF1 T) (tF2 T) ∧ ModRel C I pn ps T K ∧ RFr A I C I := by
  obtain ⟨m1, m2, m3, m4, m5, m6⟩ := id hm
  obtain ⟨C, p1, p2, p3, p4, p5, p6⟩ := Mo_findBoth (sw := sw) m2 m3 m4 hv.1 hv.2.1 hv.2.2.1 m5 hv.2.2.2.2
  have hm2 : ModRel C I pn ps T K := hm.kept (fun a ha => p6 a (by omega) (by omega) (by omega) (by omega)) rfl rfl
  exact ⟨C, p1, ⟨hm2.2.1, hm2.2.2.1, hm2.2.2.2.1, p2, p4, p3, p5⟩, hm2, fun a ha => p6 a (by omega) (by omega) (by omega) (by omega), fun _ _ => rfl⟩
theorem CxM.mv {C : Nat → Nat → Int32} (h : CxM C T.1 T.2.1 T.2.2.1 (tS1 T) (tS2 T) (tF1 T) (tF2 T)) {t : Nat} (h1 : 1 ≤ t) (ht : t < 3) : MMoves C t (tF T t) := by
  rcases (show t = 1 ∨ t = 2 by omega) with rfl | rfl
  · exact h.2.2.2.2.2.1
  · exact h.2.2.2.2.2.2
theorem M3F.mod {C : Nat → Nat → Int32} (f : M3F A C) (hm : ModRel A I pn ps T K) : ModRel C I pn ps T K ∧ RFr A I C I := ⟨hm.kept (fun a ha => f a (by omega)) rfl rfl, fun a ha => f a (by omega), fun _ _ => rfl⟩
theorem op_dest (h : Inv A I sw) (x y : Int32) : Both A I sw (fun h => f_MF_dest h 0 x y) (fun h => f_Mo_dest h 64 x y) := by
  obtain ⟨pn, ps, T, K, hv, hc, hm⟩ := h
  have no : (x = nI 0 ∨ x < 0 ∨ nI 3 ≤ x) → Both A I sw (fun h => f_MF_dest h 0 x y) (fun h => f_Mo_dest h 64 x y) := by
    intro q
    refine Both.mk (x := -1) (B := A) (J := I) (C := A) (L := I) ?_ ?_ hv hc hm RFr.rf
    · unfold f_MF_dest
      rw [kk_0, MF_isSide_out q, sb, if_pos rfl]
    · unfold f_Mo_dest
      rw [kk_64, Mo_isSide_out q, sb, if_pos rfl]
  rcases tri x with ⟨t, ht, rfl⟩ | q
  · by_cases t0 : t = 0
    · exact no (Or.inl (by rw [t0]))
    · have h1 : 1 ≤ t := by omega
      rcases isF y with ⟨a1, a2⟩ | ⟨F, hF, vf, rfl, a1, a2⟩
      · refine Both.mk (x := -2) (B := A) (J := I) (C := A) (L := I) ?_ ?_ hv hc hm RFr.rf
        · unfold f_MF_dest
          rw [kk_0, MF_isSide_in h1 ht, sb, if_neg (show ¬ (1 : Int32) = 0 by decide), a1, sb, if_pos rfl]
        · unfold f_Mo_dest
          rw [kk_64, Mo_isSide_in h1 ht, sb, if_neg (show ¬ (1 : Int32) = 0 by decide), a2, sb, if_pos rfl]
      · obtain ⟨B, J, z1, z2, z3, z4⟩ := refresh_cls hv.2.1 hc
        obtain ⟨o, s1, s2, s3⟩ := MF_side (A := B) (I := J) (sw := sw) h1 ht
        have hm2 := z4.mod hm
        obtain ⟨n, st, g1, g2⟩ := z3.moves h1 ht
        obtain ⟨C, w1, w2, w3, w4⟩ := Mo_both (sw := sw) hv.2.1 hm2
        have vx := hv.2.1.vx
        obtain ⟨C2, y1, y2⟩ := Mo_destOf (I := J) (sw := sw) (F := F) ht w2.2.2.2.2.2.1 w2.2.2.2.2.2.2 (w2.mv h1 ht) (fun F G e => (vx.2.2.2.2.2.1 F G e).1) (fun F G e => (vx.2.2.2.2.2.2 F G e).1) (tF_v hv.2.1 h1 ht) hF vf
        obtain ⟨r1, r2⟩ := y2.mod w3
        refine Both.mk (x := nI (dst (tF T t) (rnd (tF T t) (tF1 T) (tF2 T)) F)) ?_ ?_ hv z2 r1 (w4.tr r2)
        · unfold f_MF_dest
          rw [kk_0, MF_isSide_in h1 ht, sb, if_neg (show ¬ (1 : Int32) = 0 by decide), a1, sb, if_neg (show ¬ (1 : Int32) = 0 by decide), z1, sb, s1, sb, s3, sb, Moves_follow (isM_m t) g1 g2 (tF_v hv.2.1 h1 ht) hF vf, sb]
        · unfold f_Mo_dest
          rw [kk_64, Mo_isSide_in h1 ht, sb, if_neg (show ¬ (1 : Int32) = 0 by decide), a2, sb, if_neg (show ¬ (1 : Int32) = 0 by decide), w1, sb, y1, sb]
  · exact no (Or.inr q)
end O10
