-- ===== the whole state =====
abbrev Trs : Type := Tre × Tre × Tre × Nat
def VTs (T : Trs) : Prop := VT T.1 ∧ VT T.2.1 ∧ VT T.2.2.1 ∧ 1 ≤ T.2.2.2 ∧ T.2.2.2 ≤ 100
def tS1 (T : Trs) : Pst := prs T.2.2.2 T.1 T.2.1
def tS2 (T : Trs) : Pst := prs T.2.2.2 T.1 T.2.2.1
def tF1 (T : Trs) : Nat → Option Nat := mv T.1 T.2.1 (tS1 T)
def tF2 (T : Trs) : Nat → Option Nat := mv T.1 T.2.2.1 (tS2 T)
noncomputable def tD1 (T : Trs) : Nat → Nat := dst (tF1 T) (rnd (tF1 T) (tF1 T) (tF2 T))
noncomputable def tD2 (T : Trs) : Nat → Nat := dst (tF2 T) (rnd (tF2 T) (tF1 T) (tF2 T))
theorem VTs.vx {T : Trs} (h : VTs T) : Vx T.1 T.2.1 T.2.2.1 (tS1 T) (tS2 T) (tF1 T) (tF2 T) := by
  obtain ⟨h1, h2, h3, h4, h5⟩ := h
  have w1 : WFp T.1.1 T.2.1.1 (tS1 T) := prs_WF
  have w2 : WFp T.1.1 T.2.2.1.1 (tS2 T) := prs_WF
  exact ⟨h1, h2, h3, w1, w2, fun F G e => ⟨(mv_ok w1 h1 h2 e).2.2.2, (mv_ok w1 h1 h2 e).2.2.1⟩, fun F G e => ⟨(mv_ok w2 h1 h3 e).2.2.2, (mv_ok w2 h1 h3 e).2.2.1⟩⟩
def HC (A I : Nat → Nat → Int32) (sw : Bool) (T : Trs) : Prop := TreeIs A I 4 T.1 ∧ TreeIs A I (RF sw 3 1) T.2.1 ∧ TreeIs A I (RF sw 3 2) T.2.2.1 ∧ I 3 3 = nI T.2.2.2
def Cache (A I : Nat → Nat → Int32) (sw : Bool) (T : Trs) : Prop := ∃ n1 n2 st1 st2 n d m cp, CxC A I sw T.1 T.2.1 T.2.2.1 (tS1 T) (tS2 T) (tF1 T) (tF2 T) n1 n2 st1 st2 ∧ EntC A I n d ∧ IsMg (Sx (tD1 T) (tD2 T) T.1 T.2.1 T.2.2.1 (tS1 T) (tS2 T)) n d ∧ ClC A I d n m cp
/-- only what is found of the trees was changed -/
def RfF (A I A' I' : Nat → Nat → Int32) : Prop := (∀ a, (a < 34 ∨ 64 ≤ a) → A' a = A a) ∧ ∀ a b, (a < 34 ∨ 64 ≤ a) → (a ≠ 0 ∨ b ≠ 9) → I' a b = I a b
theorem RfF.tr {A I B J C K : Nat → Nat → Int32} (h : RfF A I B J) (g : RfF B J C K) : RfF A I C K := ⟨fun a e => (g.1 a e).trans (h.1 a e), fun a b e q => (g.2 a b e q).trans (h.2 a b e q)⟩
theorem RfF.tree {A I A' I' : Nat → Nat → Int32} (f : RfF A I A' I') {r : Nat} {X : Tre} (hr : isT r = true) (h : TreeIs A I r X) : TreeIs A' I' r X := by
  have q : r + 2 < 34 ∧ r ≠ 0 := by rcases isT_cases hr with rfl | rfl | rfl | rfl | rfl | rfl | rfl | rfl | rfl <;> decide
  exact h.kept (funext fun b => f.2 r b (by omega) (by omega)) (f.1 _ (by omega)) (f.1 _ (by omega))
theorem RfF.hc {A I A' I' : Nat → Nat → Int32} {sw : Bool} {T : Trs} (f : RfF A I A' I') (h : HC A I sw T) : HC A' I' sw T := ⟨f.tree (by decide) h.1, f.tree (isT1 sw) h.2.1, f.tree (isT2 sw) h.2.2.1, by rw [f.2 3 3 (by decide) (by decide)]; exact h.2.2.2⟩
section RF
variable {A I : Nat → Nat → Int32} {sw : Bool} {T : Trs}
theorem refresh_run {B1 B2 B3 J3 B4 J4 B5 J5 B6 J6 : Nat → Nat → Int32} (hc : I 0 9 = 0) (a1 : f_Pairs_find (Wd A I sw) 35 4 (RF sw 3 1) (I 3 3) = some (Wd B1 I sw)) (b1 : f_Pairs_find (Wd B1 I sw) 45 4 (RF sw 3 2) (I 3 3) = some (Wd B2 I sw)) (c1 : f_Moves_find (Wd B2 I sw) 40 4 (RF sw 3 1) 35 = some (Wd B3 J3 sw)) (d1 : f_Moves_find (Wd B3 J3 sw) 50 4 (RF sw 3 2) 45 = some (Wd B4 J4 sw)) (e1 : f_Loops_mark (Wd B4 J4 sw) 54 40 50 = some (Wd B5 J5 sw)) (g1 : f_Merge_make (Wd B5 J5 sw) 56 3 34 44 = some (Wd B6 J6 sw)) : f_MF_refresh (Wd A I sw) 0 = some (Wd B6 (up2 J6 0 9 1) sw) := by
  unfold f_MF_refresh
  rw [kk_0, gg_0_9, sb, hc, if_pos rfl, rr_0_5, sb, rr_34_0, sb, rr_0_1, sb, rr_3_0, sb, sb, rr_3_1, sb, sb, gg_3_3, sb, a1, sb]
  rw [rr_0_6, sb, rr_44_0, sb, rr_0_1, sb, rr_3_0, sb, sb, rr_3_2, sb, sb, gg_3_3, sb, b1, sb]
  rw [rr_0_5, sb, rr_34_1, sb, rr_0_1, sb, rr_3_0, sb, sb, rr_3_1, sb, sb, rr_34_0, sb, c1, sb]
  rw [rr_0_6, sb, rr_44_1, sb, rr_0_1, sb, rr_3_0, sb, sb, rr_3_2, sb, sb, rr_44_0, sb, d1, sb]
  rw [rr_0_7, sb, rr_0_5, sb, rr_34_1, sb, rr_0_6, sb, rr_44_1, sb, e1, sb]
  rw [rr_0_8, sb, rr_0_1, sb, rr_0_5, sb, rr_0_6, sb, g1, sb, ss_0_9, sb]
theorem MF_refresh (v : VTs T) (h : HC A I sw T) (hc : I 0 9 = 0 ∨ (I 0 9 = 1 ∧ Cache A I sw T)) : ∃ A' I', f_MF_refresh (Wd A I sw) 0 = some (Wd A' I' sw) ∧ HC A' I' sw T ∧ I' 0 9 = 1 ∧ Cache A' I' sw T ∧ RfF A I A' I' := by
  rcases hc with hc | ⟨hc, hC⟩
  · obtain ⟨v0, v1, v2, l1, l2⟩ := id v
    have vx := v.vx
    obtain ⟨h0, h1, h2, h3⟩ := id h
    -- pairs
    obtain ⟨B1, a1, a2, a3⟩ := Pairs_find (sw := sw) (p := 35) (by decide) (isT1 sw) h0 h1 v0 v1 l1 l2
    obtain ⟨B2, b1, b2, b3⟩ := Pairs_find (sw := sw) (p := 45) (by decide) (isT2 sw) (a3.tree (by decide) (by decide) h0) (a3.tree (isT2 sw) (by decide) h2) v0 v2 l1 l2
    have F2 : RfF A I B2 I := ⟨fun a ha => (b3 a (by omega) (by omega) (by omega) (by omega)).trans (a3 a (by omega) (by omega) (by omega) (by omega)), fun _ _ _ _ => rfl⟩
    have p1 : PairsIs B2 35 (tS1 T) := fun i hi => by
      rw [b3 (35 + 1) (by decide) (by decide) (by decide) (by decide), b3 (35 + 2) (by decide) (by decide) (by decide) (by decide), b3 (35 + 3) (by decide) (by decide) (by decide) (by decide)]
      exact a2 i hi
    have p2 : PairsIs B2 45 (tS2 T) := b2
    have H2 := F2.hc h
    -- moves
    obtain ⟨B3, J3, n1, st1, c1, c2, c3⟩ := Moves_find (sw := sw) (p := 35) (m := 40) (by decide) (by decide) (isT1 sw) H2.1 H2.2.1 v0 v1 vx.2.2.2.1 p1
    obtain ⟨B4, J4, n2, st2, d1, d2, d3⟩ := Moves_find (sw := sw) (p := 45) (m := 50) (by decide) (by decide) (isT2 sw) (c3.tree (by decide) (by decide) H2.1) (c3.tree (isT2 sw) (by decide) H2.2.2.1) v0 v2 vx.2.2.2.2.1 (c3.pairs (by decide) (by decide) p2)
    have F3 : RfF B2 I B3 J3 := ⟨fun a ha => c3.1 a (by omega) (by omega) (by omega), fun a b ha hb => c3.2 a b (Or.inl (by omega))⟩
    have F4 : RfF B3 J3 B4 J4 := ⟨fun a ha => d3.1 a (by omega) (by omega) (by omega), fun a b ha hb => d3.2 a b (Or.inl (by omega))⟩
    have m1 : MovesIs B4 J4 40 (tF1 T) n1 st1 := c2.kept (d3.2 40 3 (by decide)) (d3.1 41 (by decide) (by decide) (by decide)) (d3.1 42 (by decide) (by decide) (by decide))
    have m2 : MovesIs B4 J4 50 (tF2 T) n2 st2 := d2
    -- rounds
    obtain ⟨B5, J5, e1, e2, e3, e4, e5, e6, e7⟩ := Loops_mark (sw := sw) m1 m2
    have F5 : RfF B4 J4 B5 J5 := ⟨fun a ha => e6 a (by omega) (by omega) (by omega), fun a b ha hb => e7 a b (by omega)⟩
    have H5 := F5.hc (F4.hc (F3.hc H2))
    have q1 : PairsIs B5 35 (tS1 T) := fun i hi => by
      rw [e6 (35 + 1) (by decide) (by decide) (by decide), e6 (35 + 2) (by decide) (by decide) (by decide), e6 (35 + 3) (by decide) (by decide) (by decide)]
      exact d3.pairs (by decide) (by decide) (c3.pairs (by decide) (by decide) p1) i hi
    have q2 : PairsIs B5 45 (tS2 T) := fun i hi => by
      rw [e6 (45 + 1) (by decide) (by decide) (by decide), e6 (45 + 2) (by decide) (by decide) (by decide), e6 (45 + 3) (by decide) (by decide) (by decide)]
      exact d3.pairs (by decide) (by decide) (c3.pairs (by decide) (by decide) p2) i hi
    have cx : CxC B5 J5 sw T.1 T.2.1 T.2.2.1 (tS1 T) (tS2 T) (tF1 T) (tF2 T) n1 n2 st1 st2 := ⟨H5.1, H5.2.1, H5.2.2.1, q1, q2, e2, e3, e4, e5⟩
    -- the merge
    obtain ⟨B6, J6, n, d, m, cp, g1, g2, g3, g4, g5⟩ := Merge_make (sw := sw) (D1 := tD1 T) (D2 := tD2 T) cx vx rfl rfl
    have F6 : RfF B5 J5 B6 J6 := ⟨fun a ha => g5.1 a (by omega), fun a b ha hb => g5.2 a b (by omega)⟩
    have F7 : RfF B6 J6 B6 (up2 J6 0 9 1) := ⟨fun _ _ => rfl, fun a b ha hb => by
      by_cases q : a = 0
      · exact up2_m (by omega)
      · exact up2_n q⟩
    have FF := (((((F2.tr F3).tr F4).tr F5).tr F6).tr F7)
    have cx6 := cx.mg g5
    have up0 : ∀ a b, a ≠ 0 → up2 J6 0 9 1 a b = J6 a b := fun a b ha => up2_n ha
    have hm0 : ∀ {r : Nat} {X : Tre}, r ≠ 0 → TreeIs B6 J6 r X → TreeIs B6 (up2 J6 0 9 1) r X := fun hr t => t.kept (funext fun b => up0 _ b hr) rfl rfl
    have n0 : RF sw 3 1 ≠ 0 ∧ RF sw 3 2 ≠ 0 := by cases sw <;> decide
    have cx7 : CxC B6 (up2 J6 0 9 1) sw T.1 T.2.1 T.2.2.1 (tS1 T) (tS2 T) (tF1 T) (tF2 T) n1 n2 st1 st2 := by
      obtain ⟨x1, x2, x3, x4, x5, x6, x7, x8, x9⟩ := cx6
      exact ⟨hm0 (by decide) x1, hm0 n0.1 x2, hm0 n0.2 x3, x4, x5, x6.kept (up0 40 3 (by decide)) rfl rfl, x7.kept (up0 50 3 (by decide)) rfl rfl, x8, x9⟩
    refine ⟨B6, up2 J6 0 9 1, ?_, FF.hc h, up2_s _ _ _ _, ⟨n1, n2, st1, st2, n, d, m, cp, cx7, g2.kept rfl rfl rfl rfl (up0 56 4 (by decide)), g3, ?_⟩, FF⟩
    · have a1' : f_Pairs_find (Wd A I sw) 35 4 (RF sw 3 1) (I 3 3) = some (Wd B1 I sw) := by rw [h3]; exact a1
      have b1' : f_Pairs_find (Wd B1 I sw) 45 4 (RF sw 3 2) (I 3 3) = some (Wd B2 I sw) := by rw [h3]; exact b1
      exact refresh_run hc a1' b1' c1 d1 e1 g1
    · obtain ⟨y1, y2, y3, y4⟩ := g4
      exact ⟨(up0 56 7 (by decide)).trans y1, y2, y3, y4⟩
  · refine ⟨A, I, ?_, h, hc, hC, fun _ _ => rfl, fun _ _ _ _ => rfl⟩
    unfold f_MF_refresh
    rw [kk_0, gg_0_9, sb, hc, if_neg (by decide)]
end RF
