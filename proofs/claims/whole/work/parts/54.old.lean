-- ===== what becomes of BASE's files =====
def pth (Y : Tre) (m : Option Nat) (d : Nat) : Nat := match m with
  | some j => Y.2.1 j
  | none => d
def ctn (Y : Tre) (m : Option Nat) (d : Nat) : Nat := match m with
  | some j => Y.2.2 j
  | none => d
def fJ (D1 D2 : Nat → Nat) (a b c : Nat) : Nat := if b = c then b else if b = a then D1 c else if c = a then D2 b else min b c
def pJ (D1 D2 : Nat → Nat) (a b c : Nat) : Nat := 10 * fJ D1 D2 (a / 10) (b / 10) (c / 10) + j3 (a % 10) (b % 10) (c % 10)
def pD (a b c : Nat) : Bool := d3 (a / 10) (b / 10) (c / 10) || d3 (a % 10) (b % 10) (c % 10)
def entO (D1 D2 : Nat → Nat) (z i p0 p1 p2 c0 c1 c2 : Nat) : Ent := (pJ D1 D2 p0 p1 p2, cJ c0 c1 c2, cz (cz z (pD p0 p1 p2) 1) (cD c0 c1 c2) 4, i)
def oldE (D1 D2 : Nat → Nat) (X Y Z : Tre) (s1 s2 : Pst) (i : Nat) : Option Ent :=
  if s1.1 i = none ∧ s2.1 i = none then none
  else if (s1.1 i = none ∨ s2.1 i = none) ∧ pth Y (s1.1 i) (X.2.1 i) = pth Z (s2.1 i) (X.2.1 i) ∧ ctn Y (s1.1 i) (X.2.2 i) = ctn Z (s2.1 i) (X.2.2 i) then none
  else some (entO D1 D2 (if s1.1 i = none ∨ s2.1 i = none then 2 else 0) i (X.2.1 i) (pth Y (s1.1 i) (X.2.1 i)) (pth Z (s2.1 i) (X.2.1 i)) (X.2.2 i) (ctn Y (s1.1 i) (X.2.2 i)) (ctn Z (s2.1 i) (X.2.2 i)))
theorem vP_d {p : Nat} (h : vP p = true) : vF (p / 10) = true ∧ p / 10 ≤ 444 ∧ p % 10 ≤ 7 := by
  unfold vP at h
  rw [Bool.and_eq_true] at h
  exact ⟨h.1, vF_le h.1, of_decide_eq_true h.2⟩
theorem vP_mk {F k : Nat} (h : vF F = true) (hk : k ≤ 7) : vP (10 * F + k) = true := by
  unfold vP
  rw [show (10 * F + k) / 10 = F by omega, show (10 * F + k) % 10 = k by omega, h, decide_eq_true hk]
  rfl
/-- the destinations are folders -/
def VD (D : Nat → Nat) : Prop := ∀ F, F ≤ 444 → vF F = true → vF (D F) = true
theorem fJ_v {D1 D2 : Nat → Nat} (h1 : VD D1) (h2 : VD D2) {a b c : Nat} (hb : vF b = true) (hc : vF c = true) : vF (fJ D1 D2 a b c) = true := by
  have b1 := vF_le hb
  have c1 := vF_le hc
  unfold fJ
  split
  · exact hb
  · split
    · exact h1 c c1 hc
    · split
      · exact h2 b b1 hb
      · rcases Nat.le_total b c with q | q
        · rw [Nat.min_eq_left q]; exact hb
        · rw [Nat.min_eq_right q]; exact hc
theorem pJ_v {D1 D2 : Nat → Nat} (h1 : VD D1) (h2 : VD D2) {a b c : Nat} (hb : vP b = true) (hc : vP c = true) : vP (pJ D1 D2 a b c) = true := by
  have b1 := vP_d hb
  have c1 := vP_d hc
  refine vP_mk (fJ_v h1 h2 b1.1 c1.1) ?_
  rcases j3_or (a % 10) (b % 10) (c % 10) with e | e <;> rw [e] <;> omega
theorem entO_v {D1 D2 : Nat → Nat} (h1 : VD D1) (h2 : VD D2) {z i p0 p1 p2 c0 c1 c2 : Nat} (hz : z < 8) (hi : i < 12) (a1 : vP p1 = true) (a2 : vP p2 = true) (a3 : vC c1 = true) (a4 : vC c2 = true) : VE (entO D1 D2 z i p0 p1 p2 c0 c1 c2) := ⟨pJ_v h1 h2 a1 a2, cJ_v a3 a4, cz_lt _ (cz_lt _ (by omega) (by decide)) (by decide), by show i < 300; omega⟩
-- ===== the class =====
def FC (A I : Nat → Nat → Int32) (sw : Bool) (D1 D2 : Nat → Nat) : Prop := ∀ F, F ≤ 444 → vF F = true → f_Moves_follow (Wd A I sw) 40 (nI F) = some (nI (D1 F)) ∧ f_Moves_follow (Wd A I sw) 50 (nI F) = some (nI (D2 F))
theorem isT1 (sw : Bool) : isT (RF sw 3 1) = true := by cases sw <;> decide
theorem isT2 (sw : Bool) : isT (RF sw 3 2) = true := by cases sw <;> decide
section OC
variable {A I : Nat → Nat → Int32} {sw : Bool} {D1 D2 : Nat → Nat}
theorem joinFolders (hF : FC A I sw D1 D2) {a b c : Nat} (ha : vP a = true) (hb : vP b = true) (hc : vP c = true) : f_Merge_joinFolders (Wd A I sw) (nI a) (nI b) (nI c) 40 50 = some (nI (fJ D1 D2 (a / 10) (b / 10) (c / 10))) := by
  have a1 := vP_d ha
  have b1 := vP_d hb
  have c1 := vP_d hc
  have e61 : f_Merge_joinFolders_61 (Wd A I sw) (nI (a / 10)) (nI (b / 10)) (nI (c / 10)) = some (nI (j3 (a / 10) (b / 10) (c / 10))) := by
    unfold f_Merge_joinFolders_61
    rw [join3 (by omega) (by omega) (by omega), sb]
  unfold f_Merge_joinFolders f_Letters_folderOf
  rw [div10 (by omega), div10 (by omega), div10 (by omega), sb, sb, sb, ifc (nI_eq (by omega) (by omega)), ifc (nI_eq (by omega) (by omega)), (hF (c / 10) c1.2.1 c1.1).1, sb]
  unfold f_Merge_joinFolders_39
  rw [ifc (nI_eq (by omega) (by omega)), ifc (nI_eq (by omega) (by omega)), (hF (b / 10) b1.2.1 b1.1).2, sb, e61]
  unfold fJ j3
  by_cases q1 : b / 10 = c / 10
  · simp only [if_pos q1]
  · by_cases q2 : b / 10 = a / 10
    · simp only [if_neg q1, if_pos q2]
    · by_cases q3 : c / 10 = a / 10
      · simp only [if_neg q1, if_neg q2, if_pos q3]
      · simp only [if_neg q1, if_neg q2, if_neg q3]
theorem pathsClash {a b c : Nat} (ha : vP a = true) (hb : vP b = true) (hc : vP c = true) : f_Merge_pathsClash (nI a) (nI b) (nI c) = some (if pD a b c = true then 1 else 0) := by
  have a1 := vP_lt ha
  have b1 := vP_lt hb
  have c1 := vP_lt hc
  unfold f_Merge_pathsClash f_Letters_folderOf f_Letters_nameOf pD
  simp only [sb, div10 (show a < 2 ^ 31 by omega), div10 (show b < 2 ^ 31 by omega), div10 (show c < 2 ^ 31 by omega), rem10 (show a < 2 ^ 31 by omega), rem10 (show b < 2 ^ 31 by omega), rem10 (show c < 2 ^ 31 by omega), differ3 (show a / 10 < 2 ^ 31 by omega) (show b / 10 < 2 ^ 31 by omega) (show c / 10 < 2 ^ 31 by omega), differ3 (show a % 10 < 2 ^ 31 by omega) (show b % 10 < 2 ^ 31 by omega) (show c % 10 < 2 ^ 31 by omega)]
  cases d3 (a / 10) (b / 10) (c / 10) <;> cases d3 (a % 10) (b % 10) (c % 10) <;> decide
theorem orz {z : Nat} (hz : z < 16) (b : Bool) (w : Nat) (hw : w < 16) (x : Int32) (hx : x = if b = true then nI w else nI 0) : nI z ||| x = nI (cz z b w) := by
  subst hx
  unfold cz
  cases b with
  | true => rw [if_pos rfl, if_pos rfl, (or16 z hz w hw).1]
  | false => rw [if_neg (by decide), if_neg (by decide), (or16 z hz 0 (by decide)).1, Nat.or_zero]
theorem addOld_186 (hF : FC A I sw D1 D2) {z i p0 p1 p2 c0 c1 c2 : Nat} (hz : z < 8) (a0 : vP p0 = true) (a1 : vP p1 = true) (a2 : vP p2 = true) (b0 : vC c0 = true) (b1 : vC c1 = true) (b2 : vC c2 = true) : f_Merge_addOld_186 (Wd A I sw) 56 34 44 (nI i) (nI p0) (nI c0) (nI p1) (nI p2) (nI c1) (nI c2) (nI z) = f_Merge_add (Wd A I sw) 56 (nI (entO D1 D2 z i p0 p1 p2 c0 c1 c2).1) (nI (entO D1 D2 z i p0 p1 p2 c0 c1 c2).2.1) (nI (entO D1 D2 z i p0 p1 p2 c0 c1 c2).2.2.1) (nI (entO D1 D2 z i p0 p1 p2 c0 c1 c2).2.2.2) := by
  have q0 := vP_lt a0
  have q1 := vP_lt a1
  have q2 := vP_lt a2
  have e1 : nI z ||| (if (if pD p0 p1 p2 = true then (1 : Int32) else (0 : Int32)) = (0 : Int32) then (0 : Int32) else (1 : Int32)) = nI (cz z (pD p0 p1 p2) 1) := orz (by omega) _ 1 (by decide) _ (by cases pD p0 p1 p2 <;> decide)
  have e2 : nI (cz z (pD p0 p1 p2) 1) ||| (if (if cD c0 c1 c2 = true then (1 : Int32) else (0 : Int32)) = (0 : Int32) then (0 : Int32) else (4 : Int32)) = nI (cz (cz z (pD p0 p1 p2) 1) (cD c0 c1 c2) 4) := orz (cz_lt _ (by omega) (by decide)) _ 4 (by decide) _ (by cases cD c0 c1 c2 <;> decide)
  have e3 : (10 : Int32) * nI (fJ D1 D2 (p0 / 10) (p1 / 10) (p2 / 10)) + nI (j3 (p0 % 10) (p1 % 10) (p2 % 10)) = nI (pJ D1 D2 p0 p1 p2) := by
    rw [show (10 : Int32) * nI (fJ D1 D2 (p0 / 10) (p1 / 10) (p2 / 10)) = nI (10 * fJ D1 D2 (p0 / 10) (p1 / 10) (p2 / 10)) from pk_mul 10 _, nI_add]
    rfl
  have hb : ∀ x : Option Hp, (x.bind fun h31 => some h31) = x := fun x => by cases x <;> rfl
  unfold f_Merge_addOld_186 f_Letters_nameOf
  rw [pathsClash a0 a1 a2, sb, contentsClash b0 b1 b2, sb, rr_34_1, sb, rr_44_1, sb, joinFolders hF a0 a1 a2, sb, rem10 (by omega), rem10 (by omega), rem10 (by omega), sb, sb, sb, join3 (by omega) (by omega) (by omega), sb, joinContents b0 b1 b2, sb, e1, e2, e3, hb]
  rfl
end OC
/-- a set of entries with one more, or none -/
def addS (S : Ent → Prop) (o : Option Ent) : Ent → Prop := fun y => S y ∨ o = some y
def cO (o : Option Ent) : Nat := match o with
  | some _ => 1
  | none => 0
def InvC (A I : Nat → Nat → Int32) (S : Ent → Prop) (n fr : Nat) : Prop := ∃ e, EntC A I n e ∧ SoE e n ∧ (∀ y, InE e n y ↔ S y) ∧ ∀ y, S y → y.2.2.2 < fr
theorem InvC.skip {A I : Nat → Nat → Int32} {S : Ent → Prop} {n fr : Nat} (h : InvC A I S n fr) {o : Option Ent} (ho : o = none) {fr' : Nat} (hf : fr ≤ fr') : InvC A I (addS S o) (n + cO o) fr' := by
  subst ho
  have : addS S none = S := by funext y; unfold addS; simp
  rw [this]
  obtain ⟨e, h1, h2, h3, h4⟩ := h
  exact ⟨e, h1, h2, h3, fun y hy => Nat.lt_of_lt_of_le (h4 y hy) hf⟩
theorem InvC.add {A I : Nat → Nat → Int32} {sw : Bool} {S : Ent → Prop} {n fr : Nat} (h : InvC A I S n fr) {x : Ent} (hx : VE x) (hn : n < 36) (hfr : fr ≤ x.2.2.2) : ∃ A' I', f_Merge_add (Wd A I sw) 56 (nI x.1) (nI x.2.1) (nI x.2.2.1) (nI x.2.2.2) = some (Wd A' I' sw) ∧ InvC A' I' (addS S (some x)) (n + cO (some x)) (x.2.2.2 + 1) ∧ EF A I A' I' := by
  obtain ⟨e, h1, h2, h3, h4⟩ := h
  obtain ⟨A', I', k, z1, z2, z3, z4, z5, z6⟩ := Merge_add (sw := sw) h1 hn hx
  refine ⟨A', I', z1, ⟨insE e k x, z5, insE_so z2 h2 z3 ?_, fun y => ?_, fun y hy => ?_⟩, z6⟩
  · rcases z4 with z4 | z4
    · exact Or.inl z4
    · by_cases c : k = 0
      · exact Or.inl c
      · refine Or.inr ?_
        have hne : ky x ≠ ky (e (k - 1)) := fun q => by
          have q2 := ky_inj hx (h1.2.2 (k - 1) (by omega)).2 q
          have := h4 _ ((h3 _).mp ⟨k - 1, by omega, q2.symm⟩)
          omega
        omega
  · show InE (insE e k x) (n + 1) y ↔ addS S (some x) y
    rw [insE_in z2, h3 y]
    unfold addS
    constructor
    · rintro (a | a)
      · exact Or.inl a
      · exact Or.inr (by rw [a])
    · rintro (a | a)
      · exact Or.inl a
      · cases a; exact Or.inr rfl
  · rcases hy with hy | hy
    · have := h4 y hy; omega
    · cases hy; omega
/-- all that the class's merge reads -/
def CxC (A I : Nat → Nat → Int32) (sw : Bool) (X Y Z : Tre) (s1 s2 : Pst) (f1 f2 : Nat → Option Nat) (n1 n2 : Nat) (st1 st2 : Nat → Nat) : Prop := TreeIs A I 4 X ∧ TreeIs A I (RF sw 3 1) Y ∧ TreeIs A I (RF sw 3 2) Z ∧ PairsIs A 35 s1 ∧ PairsIs A 45 s2 ∧ MovesIs A I 40 f1 n1 st1 ∧ MovesIs A I 50 f2 n2 st2 ∧ RoundsIs A 40 (rnd f1 f1 f2) n1 st1 ∧ RoundsIs A 50 (rnd f2 f1 f2) n2 st2
/-- the arrays and fields behind the search for moves -/
def MgF (A I A' I' : Nat → Nat → Int32) : Prop := (∀ a, (a < 56 ∨ 64 ≤ a) → A' a = A a) ∧ ∀ a b, a ≠ 56 → I' a b = I a b
theorem EF.mg {A I A' I' : Nat → Nat → Int32} (h : EF A I A' I') : MgF A I A' I' := ⟨fun a ha => h.1 a (by omega) (by omega) (by omega) (by omega), fun a b ha => h.2 a b (Or.inl ha)⟩
theorem MgF.rf {A I : Nat → Nat → Int32} : MgF A I A I := ⟨fun _ _ => rfl, fun _ _ _ => rfl⟩
theorem MgF.tr {A I B J C K : Nat → Nat → Int32} (h : MgF A I B J) (g : MgF B J C K) : MgF A I C K := ⟨fun a ha => (g.1 a ha).trans (h.1 a ha), fun a b e => (g.2 a b e).trans (h.2 a b e)⟩
theorem MgF.tree {A I A' I' : Nat → Nat → Int32} (f : MgF A I A' I') {r : Nat} {X : Tre} (hr : isT r = true) (h : TreeIs A I r X) : TreeIs A' I' r X := by
  have q : r + 2 < 56 := by rcases isT_cases hr with rfl | rfl | rfl | rfl | rfl | rfl | rfl | rfl | rfl <;> decide
  exact h.kept (funext fun b => f.2 r b (by omega)) (f.1 _ (by omega)) (f.1 _ (by omega))
theorem CxC.mg {A I A' I' : Nat → Nat → Int32} {sw : Bool} {X Y Z : Tre} {s1 s2 : Pst} {f1 f2 : Nat → Option Nat} {n1 n2 : Nat} {st1 st2 : Nat → Nat} (h : CxC A I sw X Y Z s1 s2 f1 f2 n1 n2 st1 st2) (f : MgF A I A' I') : CxC A' I' sw X Y Z s1 s2 f1 f2 n1 n2 st1 st2 := by
  obtain ⟨h1, h2, h3, h4, h5, h6, h7, h8, h9⟩ := h
  refine ⟨f.tree (by decide) h1, f.tree (isT1 sw) h2, f.tree (isT2 sw) h3, fun i hi => ?_, fun i hi => ?_, h6.kept (f.2 40 3 (by decide)) (f.1 41 (by decide)) (f.1 42 (by decide)), h7.kept (f.2 50 3 (by decide)) (f.1 51 (by decide)) (f.1 52 (by decide)), fun k hk => ?_, fun k hk => ?_⟩
  · rw [f.1 (35 + 1) (by decide), f.1 (35 + 2) (by decide), f.1 (35 + 3) (by decide)]; exact h4 i hi
  · rw [f.1 (45 + 1) (by decide), f.1 (45 + 2) (by decide), f.1 (45 + 3) (by decide)]; exact h5 i hi
  · rw [f.1 (40 + 3) (by decide)]; exact h8 k hk
  · rw [f.1 (50 + 3) (by decide)]; exact h9 k hk
/-- what is true of the three trees and what was found of them -/
def Vx (X Y Z : Tre) (s1 s2 : Pst) (f1 f2 : Nat → Option Nat) : Prop := VT X ∧ VT Y ∧ VT Z ∧ WFp X.1 Y.1 s1 ∧ WFp X.1 Z.1 s2 ∧ (∀ F G, f1 F = some G → G ≤ 444 ∧ vF G = true) ∧ ∀ F G, f2 F = some G → G ≤ 444 ∧ vF G = true
section OD
variable {A I : Nat → Nat → Int32} {sw : Bool} {X Y Z : Tre} {s1 s2 : Pst} {f1 f2 : Nat → Option Nat} {n1 n2 : Nat} {st1 st2 : Nat → Nat}
theorem CxC.fc (h : CxC A I sw X Y Z s1 s2 f1 f2 n1 n2 st1 st2) (v : Vx X Y Z s1 s2 f1 f2) : FC A I sw (dst f1 (rnd f1 f1 f2)) (dst f2 (rnd f2 f1 f2)) := by
  obtain ⟨h1, h2, h3, h4, h5, h6, h7, h8, h9⟩ := h
  obtain ⟨-, -, -, -, -, v6, v7⟩ := v
  exact fun F hF vf => ⟨Moves_follow (by decide) h6 h8 v6 hF vf, Moves_follow (by decide) h7 h9 v7 hF vf⟩
theorem Vx.d (v : Vx X Y Z s1 s2 f1 f2) : VD (dst f1 (rnd f1 f1 f2)) ∧ VD (dst f2 (rnd f2 f1 f2)) := by
  obtain ⟨-, -, -, -, -, v6, v7⟩ := v
  exact ⟨fun F hF vf => dst_v hF vf v6, fun F hF vf => dst_v hF vf v7⟩
theorem pth_v {m : Option Nat} {d n0 : Nat} (hv : VT Y) (hm : ∀ j, m = some j → j < Y.1) (hd : vP d = true) : vP (pth Y m d) = true := by
  cases m with
  | none => exact hd
  | some j => exact (hv.2.1 j (hm j rfl)).1
theorem ctn_v {m : Option Nat} {d : Nat} (hv : VT Y) (hm : ∀ j, m = some j → j < Y.1) (hd : vC d = true) : vC (ctn Y m d) = true := by
  cases m with
  | none => exact hd
  | some j => exact (hv.2.1 j (hm j rfl)).2
theorem Merge_addOld {S : Ent → Prop} {n fr i : Nat} (h : CxC A I sw X Y Z s1 s2 f1 f2 n1 n2 st1 st2) (v : Vx X Y Z s1 s2 f1 f2) (g : InvC A I S n fr) (hn : n < 36) (hi : i < X.1) (hfr : fr ≤ i) : ∃ A' I', f_Merge_addOld (Wd A I sw) 56 3 34 44 (nI i) = some (Wd A' I' sw) ∧ InvC A' I' (addS S (oldE (dst f1 (rnd f1 f1 f2)) (dst f2 (rnd f2 f1 f2)) X Y Z s1 s2 i)) (n + cO (oldE (dst f1 (rnd f1 f1 f2)) (dst f2 (rnd f2 f1 f2)) X Y Z s1 s2 i)) (i + 1) ∧ EF A I A' I' := by
  have hF := h.fc v
  have hD := v.d
  generalize dst f1 (rnd f1 f1 f2) = D1 at hF hD ⊢
  generalize dst f2 (rnd f2 f1 f2) = D2 at hF hD ⊢
  obtain ⟨h1, h2, h3, h4, h5, h6, h7, h8, h9⟩ := h
  obtain ⟨v0, v1, v2, w1, w2, -, -⟩ := v
  have hX := h1.2.1
  have hY := h2.2.1
  have hZ := h3.2.1
  have m1 : ∀ j, s1.1 i = some j → j < Y.1 := fun j e => (w1.1 i j e).2
  have m2 : ∀ j, s2.1 i = some j → j < Z.1 := fun j e => (w2.1 i j e).2
  have a0 := (v0.2.1 i hi).1
  have b0 := (v0.2.1 i hi).2
  have a1 : vP (pth Y (s1.1 i) (X.2.1 i)) = true := pth_v (n0 := 0) v1 m1 a0
  have a2 : vP (pth Z (s2.1 i) (X.2.1 i)) = true := pth_v (n0 := 0) v2 m2 a0
  have b1 : vC (ctn Y (s1.1 i) (X.2.2 i)) = true := ctn_v v1 m1 b0
  have b2 : vC (ctn Z (s2.1 i) (X.2.2 i)) = true := ctn_v v2 m2 b0
  have q1 := vP_lt a1
  have q2 := vP_lt a2
  have r1 := vC_lt b1
  have r2 := vC_lt b2
  have i1 := isNone1 w1 hY i
  have i2 := isNone1 w2 hZ i
  have p1 : (if o2i (s1.1 i) = (-6 : Int32) then some (nI (X.2.1 i)) else (f_Tree_pathAt (Wd A I sw) (RF sw 3 1) (o2i (s1.1 i))).bind fun t11 => some t11) = some (nI (pth Y (s1.1 i) (X.2.1 i))) := by
    rw [ifc i1]
    cases e : s1.1 i with
    | none => rw [if_pos rfl]; rfl
    | some j => rw [if_neg (by simp), o2i_s, Tree_pathAt (isT1 sw) h2 (m1 j e), sb]; rfl
  have p2 : (if o2i (s2.1 i) = (-6 : Int32) then some (nI (X.2.1 i)) else (f_Tree_pathAt (Wd A I sw) (RF sw 3 2) (o2i (s2.1 i))).bind fun t11 => some t11) = some (nI (pth Z (s2.1 i) (X.2.1 i))) := by
    rw [ifc i2]
    cases e : s2.1 i with
    | none => rw [if_pos rfl]; rfl
    | some j => rw [if_neg (by simp), o2i_s, Tree_pathAt (isT2 sw) h3 (m2 j e), sb]; rfl
  have x1 : (if o2i (s1.1 i) = (-6 : Int32) then some (nI (X.2.2 i)) else (f_Tree_contentAt (Wd A I sw) (RF sw 3 1) (o2i (s1.1 i))).bind fun t11 => some t11) = some (nI (ctn Y (s1.1 i) (X.2.2 i))) := by
    rw [ifc i1]
    cases e : s1.1 i with
    | none => rw [if_pos rfl]; rfl
    | some j => rw [if_neg (by simp), o2i_s, Tree_contentAt (isT1 sw) h2 (m1 j e), sb]; rfl
  have x2 : (if o2i (s2.1 i) = (-6 : Int32) then some (nI (X.2.2 i)) else (f_Tree_contentAt (Wd A I sw) (RF sw 3 2) (o2i (s2.1 i))).bind fun t11 => some t11) = some (nI (ctn Z (s2.1 i) (X.2.2 i))) := by
    rw [ifc i2]
    cases e : s2.1 i with
    | none => rw [if_pos rfl]; rfl
    | some j => rw [if_neg (by simp), o2i_s, Tree_contentAt (isT2 sw) h3 (m2 j e), sb]; rfl
  -- an entry is made
  have mk : ∀ z, z < 8 → oldE D1 D2 X Y Z s1 s2 i = some (entO D1 D2 z i (X.2.1 i) (pth Y (s1.1 i) (X.2.1 i)) (pth Z (s2.1 i) (X.2.1 i)) (X.2.2 i) (ctn Y (s1.1 i) (X.2.2 i)) (ctn Z (s2.1 i) (X.2.2 i))) → ∃ A' I', f_Merge_addOld_186 (Wd A I sw) 56 34 44 (nI i) (nI (X.2.1 i)) (nI (X.2.2 i)) (nI (pth Y (s1.1 i) (X.2.1 i))) (nI (pth Z (s2.1 i) (X.2.1 i))) (nI (ctn Y (s1.1 i) (X.2.2 i))) (nI (ctn Z (s2.1 i) (X.2.2 i))) (nI z) = some (Wd A' I' sw) ∧ InvC A' I' (addS S (oldE D1 D2 X Y Z s1 s2 i)) (n + cO (oldE D1 D2 X Y Z s1 s2 i)) (i + 1) ∧ EF A I A' I' := by
    intro z hz e
    rw [e, addOld_186 hF hz a0 a1 a2 b0 b1 b2]
    exact g.add (entO_v hD.1 hD.2 hz (by omega) a1 a2 b1 b2) hn hfr
  have nn : oldE D1 D2 X Y Z s1 s2 i = none → ∃ A' I', some (Wd A I sw) = some (Wd A' I' sw) ∧ InvC A' I' (addS S (oldE D1 D2 X Y Z s1 s2 i)) (n + cO (oldE D1 D2 X Y Z s1 s2 i)) (i + 1) ∧ EF A I A' I' := fun e => ⟨A, I, rfl, g.skip e (by omega), EF.rf⟩
  have h168 : ¬ (s1.1 i = none ∧ s2.1 i = none) → (s1.1 i = none ∨ s2.1 i = none) → ∃ A' I', f_Merge_addOld_168 (Wd A I sw) 56 34 44 (nI i) (nI (X.2.1 i)) (nI (X.2.2 i)) (nI (pth Y (s1.1 i) (X.2.1 i))) (nI (pth Z (s2.1 i) (X.2.1 i))) (nI (ctn Y (s1.1 i) (X.2.2 i))) (nI (ctn Z (s2.1 i) (X.2.2 i))) = some (Wd A' I' sw) ∧ InvC A' I' (addS S (oldE D1 D2 X Y Z s1 s2 i)) (n + cO (oldE D1 D2 X Y Z s1 s2 i)) (i + 1) ∧ EF A I A' I' := by
    intro c1 c2
    unfold f_Merge_addOld_168 f_Merge_addOld_183
    rw [ifc (nI_eq (by omega) (by omega)), ifc (nI_eq (by omega) (by omega))]
    by_cases c3 : pth Y (s1.1 i) (X.2.1 i) = pth Z (s2.1 i) (X.2.1 i)
    · by_cases c4 : ctn Y (s1.1 i) (X.2.2 i) = ctn Z (s2.1 i) (X.2.2 i)
      · rw [if_pos c3, if_pos c4]
        exact nn (by unfold oldE; rw [if_neg c1, if_pos ⟨c2, c3, c4⟩])
      · rw [if_pos c3, if_neg c4]
        exact mk 2 (by decide) (by unfold oldE; rw [if_neg c1, if_neg (fun q => c4 q.2.2), if_pos c2])
    · rw [if_neg c3]
      exact mk 2 (by decide) (by unfold oldE; rw [if_neg c1, if_neg (fun q => c3 q.2.1), if_pos c2])
  have h37 : ¬ (s1.1 i = none ∧ s2.1 i = none) → ∃ A' I', f_Merge_addOld_37 (Wd A I sw) 56 3 34 44 (nI i) (o2i (s1.1 i)) (o2i (s2.1 i)) = some (Wd A' I' sw) ∧ InvC A' I' (addS S (oldE D1 D2 X Y Z s1 s2 i)) (n + cO (oldE D1 D2 X Y Z s1 s2 i)) (i + 1) ∧ EF A I A' I' := by
    intro c1
    unfold f_Merge_addOld_37
    simp only [rr_3_0, rr_3_1, rr_3_2, sb, Tree_pathAt (show isT 4 = true by decide) h1 hi, Tree_contentAt (show isT 4 = true by decide) h1 hi, p1, p2, x1, x2]
    rw [ifc i1, ifc i2]
    by_cases c2 : s1.1 i = none
    · rw [if_pos c2]
      exact h168 c1 (Or.inl c2)
    · rw [if_neg c2]
      by_cases c3 : s2.1 i = none
      · rw [if_pos c3]
        exact h168 c1 (Or.inr c3)
      · rw [if_neg c3]
        have c4 : ¬ (s1.1 i = none ∨ s2.1 i = none) := fun q => by rcases q with q | q; exact c2 q; exact c3 q
        exact mk 0 (by decide) (by unfold oldE; rw [if_neg c1, if_neg (fun q => c4 q.1), if_neg c4])
  unfold f_Merge_addOld
  rw [kk_56, rr_34_0, sb, Pairs_mateOf (by decide) h4 (by omega), sb, rr_44_0, sb, Pairs_mateOf (by decide) h5 (by omega), sb, ifc i1, ifc i2]
  by_cases c1 : s1.1 i = none
  · rw [if_pos c1]
    by_cases c2 : s2.1 i = none
    · rw [if_pos c2]
      exact nn (by unfold oldE; rw [if_pos ⟨c1, c2⟩])
    · rw [if_neg c2]
      exact h37 (fun q => c2 q.2)
  · rw [if_neg c1]
    exact h37 (fun q => c1 q.1)
end OD
