section O16
variable {A I : Nat → Nat → Int32} {sw : Bool} {pn : Nat} {ps : Nat → Nat} {T : Trs} {K : Nat → Option Trs}
theorem Cache.mg (hv : VTs T) {B J : Nat → Nat → Int32} (hc : Cache B J sw T) : ∃ n d m cp, EntC B J n d ∧ (∃ S, IsMg S n d) ∧ ClC B J d n m cp ∧ ∀ {A I : Nat → Nat → Int32} {pn : Nat} {ps : Nat → Nat} {K : Nat → Option Trs} (s2 : Bool), ModRel A I pn ps T K → ∃ C L, f_Mo_merge (Wd A I s2) 64 = some (Wd C L s2) ∧ EntM C L n d ∧ ModRel C L pn ps T K ∧ RFr A I C L := by
  obtain ⟨n1, n2, st1, st2, n, d, m, cp, c1, c2, c3, c4⟩ := hc
  refine ⟨n, d, m, cp, c2, ⟨_, c3⟩, c4, fun s2 hm => ?_⟩
  obtain ⟨C, L, k, e, z1, z2, z3, z4, z5⟩ := Mo_mg (sw := s2) hv hm
  obtain ⟨q1, q2⟩ := IsMg_uniq z3 c3
  subst q1
  exact ⟨C, L, z1, z2.cong q2, z4, z5⟩
theorem Mo_clash_m1 {C L : Nat → Nat → Int32} {n m : Nat} {d : Nat → Ent} {cp : Nat → Nat} (w1 : f_Mo_merge (Wd A I sw) 64 = some (Wd C L sw)) (w3 : EntM C L n d) (w4 : SoE d n) (hm : m ≤ n) (hc : ClIs d n m cp) : f_Mo_clash (Wd A I sw) 64 (-1) 0 = some (nI m, Wd C L sw) := by
  have hn := w3.2.1
  have m1 := Mo_clash_31 (sw := sw) w3 w4 hm hc (-1) 0
  unfold f_Mo_clash
  rw [kk_64, show (0 : Int32).toInt64 = (nI 0).toInt64 from rfl, in01 (by decide), sb, if_neg (show ¬ (1 : Int32) = 0 by decide), if_pos rfl, if_pos rfl]
  unfold f_Mo_clash_22
  rw [w1, sb, m1, clR_none (fun q hq e => nI_nm1 (by omega) e.symm), if_pos rfl]
theorem op_settle (h : Inv A I sw) : Both A I sw (fun h => f_MF_settle h 0) (fun h => f_Mo_settle h 64) := by
  obtain ⟨pn, ps, T, K, hv, hc, hm⟩ := h
  obtain ⟨B, J, z1, z2, z3, z4⟩ := refresh_cls hv.2.1 hc
  have hm2 := z4.mod hm
  obtain ⟨n, d, m, cp, w2, ⟨S, w4⟩, w5, gM⟩ := z3.mg hv.2.1
  have hn := w2.2.1
  have hmn := w5.2.1
  have hvE : ∀ i, i < n → VE (d i) := fun i hi => (w2.2.2 i hi).2
  have hsz : f_Merge_size (Wd B J sw) 56 = some (nI n) := by
    unfold f_Merge_size
    rw [kk_56, gg_56_4, sb, w2.1]
  by_cases m0 : m = 0
  · by_cases n12 : n ≤ 12
    · have c0 : ∀ i, i < n → (d i).2.2.1 = 0 := fun i hi => Classical.byContradiction fun w => by
        obtain ⟨k, a, _⟩ := w5.2.2.2.2.1 i hi w
        omega
      have hs := w4.dist c0
      have vX : VT (dT d n) := dT_V n12 hvE hs (Nat.le_refl n)
      obtain ⟨r1, r2⟩ : (RF sw 3 1 = 7 ∨ RF sw 3 1 = 10) ∧ (RF sw 3 2 = 7 ∨ RF sw 3 2 = 10) := by cases sw <;> decide
      have r12 : RF sw 3 1 ≠ RF sw 3 2 := by cases sw <;> decide
      obtain ⟨B1, J1, x1, x2, x3⟩ := Merge_writeTo (sw := sw) w2 n12 hs
      obtain ⟨B2, J2, y1, y2, y3⟩ := Tree_take (sw := sw) (q := 4) (isT1 sw) (by decide) (by omega) x2
      have t4 := y3.other (isT1 sw) (q := 4) (by decide) (by omega) x2
      obtain ⟨B3, J3, u1, u2, u3⟩ := Tree_take (sw := sw) (q := 4) (isT2 sw) (by decide) (by omega) t4
      have t4' := u3.other (isT2 sw) (q := 4) (by decide) (by omega) t4
      have t1' := u3.other (isT2 sw) (isT1 sw) r12 y2
      have fA : ∀ a, (a < 5 ∨ 13 ≤ a) → B3 a = B a := fun a ha => ((u3.1 a (by omega) (by omega)).trans (y3.1 a (by omega) (by omega))).trans (x3.1 a (by omega) (by omega))
      have fJ : ∀ a, (a < 4 ∨ 13 ≤ a) → J3 a = J a := fun a ha => ((u3.2 a (by omega)).trans (y3.2 a (by omega))).trans (x3.2 a (by omega))
      have e0 : ∀ a, a ≠ 0 → up2 J3 0 9 0 a = J3 a := fun a ha => up2_fn ha
      have fI : ∀ a, a ≠ 0 → (a < 4 ∨ 13 ≤ a) → up2 J3 0 9 0 a = J a := fun a a0 ha => by rw [e0 a a0]; exact fJ a ha
      have cf : CFr B J B3 (up2 J3 0 9 0) := ⟨fun a ha => fA a (by omega), fun a ha => fI a (by omega) (by omega)⟩
      have hm3 := cf.mod hm2
      have s4 : TreeIs B3 (up2 J3 0 9 0) 4 (dT d n) := t4'.kept (e0 4 (by decide)) rfl rfl
      have s1 : TreeIs B3 (up2 J3 0 9 0) (RF sw 3 1) (dT d n) := t1'.kept (e0 _ (by omega)) rfl rfl
      have s2 : TreeIs B3 (up2 J3 0 9 0) (RF sw 3 2) (dT d n) := u2.kept (e0 _ (by omega)) rfl rfl
      obtain ⟨C, L, q1, q2, q3, q4⟩ := gM sw hm3
      have rc := Mo_clash_m1 q1 q2 w4.1 hmn w5.2.2.2
      obtain ⟨C2, p1, p2, p3⟩ := Mo_settle_26 (sw := sw) q2 n12 q3
      obtain ⟨k1, k2, k3, k4⟩ := id z2
      have run : f_MF_settle (Wd A I sw) 0 = some (nI n, Wd B3 (up2 J3 0 9 0) sw) := by
        unfold f_MF_settle
        rw [kk_0, z1, sb, rr_0_8, sb, Merge_clashSize w5, sb, ifc (le0 (by omega)), if_pos (by omega), sb, hsz, sb, ifc (show nI n ≤ (12 : Int32) ↔ n ≤ 12 from nI_leI (by omega) (by decide)), if_pos n12, sb, rr_0_1, sb, rr_3_0, sb, x1, sb, rr_0_1, sb, rr_3_1, sb, sb, rr_3_0, sb, y1, sb, rr_0_1, sb, rr_3_2, sb, sb, rr_3_0, sb, u1, sb, ss_0_9, sb, rr_0_1, sb, rr_3_0, sb, Tree_size (by decide) s4, sb]
        rfl
      have runM : f_Mo_settle (Wd B3 (up2 J3 0 9 0) sw) 64 = some (nI n, Wd C2 L sw) := by
        unfold f_Mo_settle
        rw [kk_64, rc, sb]
        dsimp only
        rw [ifc (le0 (by omega)), if_pos (by omega), gg_64_20, sb, q2.1, ifc (show nI n ≤ (12 : Int32) ↔ n ≤ 12 from nI_leI (by omega) (by decide)), if_pos n12, p1]
      refine Both.mk (x := nI n) (s2 := sw) run runM (pn := pn) (ps := ps) (T := (dT d n, dT d n, dT d n, T.2.2.2)) (K := K) ⟨hv.1, ⟨vX, vX, vX, hv.2.1.2.2.2.1, hv.2.1.2.2.2.2⟩, hv.2.2⟩ ⟨?_, ⟨s4, s1, s2, ?_⟩, ?_, Or.inl (up2_s _ _ _ _)⟩ p2 (q4.tr p3)
      · unfold PadC at k1 ⊢
        rw [fI 1 (by decide) (by decide), fA 2 (by decide)]
        exact k1
      · rw [fI 3 (by decide) (by decide)]; exact k2.2.2.2
      · exact k3.kept (fun a ha _ => fA a (by omega)) (fun a ha _ => fI a (by omega) (by omega))
    · obtain ⟨C, L, q1, q2, q3, q4⟩ := gM sw hm2
      have rc := Mo_clash_m1 q1 q2 w4.1 hmn w5.2.2.2
      refine Both.mk (x := -4) ?_ ?_ hv z2 q3 q4
      · unfold f_MF_settle
        rw [kk_0, z1, sb, rr_0_8, sb, Merge_clashSize w5, sb, ifc (le0 (by omega)), if_pos (by omega), sb, hsz, sb, ifc (show nI n ≤ (12 : Int32) ↔ n ≤ 12 from nI_leI (by omega) (by decide)), if_neg n12]
      · unfold f_Mo_settle
        rw [kk_64, rc, sb]
        dsimp only
        rw [ifc (le0 (by omega)), if_pos (by omega), gg_64_20, sb, q2.1, ifc (show nI n ≤ (12 : Int32) ↔ n ≤ 12 from nI_leI (by omega) (by decide)), if_neg n12]
  · obtain ⟨C, L, q1, q2, q3, q4⟩ := gM sw hm2
    have rc := Mo_clash_m1 q1 q2 w4.1 hmn w5.2.2.2
    refine Both.mk (x := -5) ?_ ?_ hv z2 q3 q4
    · unfold f_MF_settle
      rw [kk_0, z1, sb, rr_0_8, sb, Merge_clashSize w5, sb, ifc (le0 (by omega)), if_neg (by omega)]
    · unfold f_Mo_settle
      rw [kk_64, rc, sb]
      dsimp only
      rw [ifc (le0 (by omega)), if_neg (by omega)]
end O16
