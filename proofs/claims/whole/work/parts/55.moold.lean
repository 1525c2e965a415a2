-- ===== the reference: what becomes of BASE's files =====
def CxM (A : Nat → Nat → Int32) (X Y Z : Tre) (s1 s2 : Pst) (f1 f2 : Nat → Option Nat) : Prop := MTree A 0 X ∧ MTree A 1 Y ∧ MTree A 2 Z ∧ MPairs A 1 s1 ∧ MPairs A 2 s2 ∧ MMoves A 1 f1 ∧ MMoves A 2 f2
theorem CxM.kept {A A' : Nat → Nat → Int32} {X Y Z : Tre} {s1 s2 : Pst} {f1 f2 : Nat → Option Nat} (h : CxM A X Y Z s1 s2 f1 f2) (f : ∀ a, a < 73 → A' a = A a) : CxM A' X Y Z s1 s2 f1 f2 := by
  unfold CxM MTree MPairs MMoves at h ⊢
  rw [f 65 (by decide), f 66 (by decide), f 67 (by decide), f 69 (by decide), f 70 (by decide), f 71 (by decide), f 72 (by decide)]
  exact h
theorem M3F.lo {A A' : Nat → Nat → Int32} (h : M3F A A') : ∀ a, a < 73 → A' a = A a := fun a ha => h a (by omega)
def InvM (A I : Nat → Nat → Int32) (S : Ent → Prop) (n fr : Nat) : Prop := ∃ e, EntM A I n e ∧ (∀ i j, i < j → j < n → e i ≠ e j) ∧ (∀ y, InE e n y ↔ S y) ∧ ∀ y, S y → y.2.2.2 < fr
theorem InvM.kept {A I A' I' : Nat → Nat → Int32} {S : Ent → Prop} {n fr : Nat} (h : InvM A I S n fr) (h1 : A' 74 = A 74) (h2 : A' 75 = A 75) (h3 : A' 76 = A 76) (h4 : A' 77 = A 77) (h5 : I' 64 20 = I 64 20) : InvM A' I' S n fr := by
  unfold InvM EntM rowE at h ⊢
  rw [h1, h5, show A' (74 + 1) = A (74 + 1) from h2, show A' (74 + 2) = A (74 + 2) from h3, show A' (74 + 3) = A (74 + 3) from h4]
  exact h
theorem InvM.skip {A I : Nat → Nat → Int32} {S : Ent → Prop} {n fr : Nat} (h : InvM A I S n fr) {o : Option Ent} (ho : o = none) {fr' : Nat} (hf : fr ≤ fr') : InvM A I (addS S o) (n + cO o) fr' := by
  subst ho
  have : addS S none = S := by funext y; unfold addS; simp
  rw [this]
  obtain ⟨e, h1, h2, h3, h4⟩ := h
  exact ⟨e, h1, h2, h3, fun y hy => Nat.lt_of_lt_of_le (h4 y hy) hf⟩
theorem InvM.add {A I : Nat → Nat → Int32} {sw : Bool} {S : Ent → Prop} {n fr : Nat} (h : InvM A I S n fr) {x : Ent} (hx : VE x) (hn : n < 36) (hfr : fr ≤ x.2.2.2) : ∃ A' I', f_Mo_addEntry (Wd A I sw) 64 (nI x.1) (nI x.2.1) (nI x.2.2.1) (nI x.2.2.2) = some (Wd A' I' sw) ∧ InvM A' I' (addS S (some x)) (n + cO (some x)) (x.2.2.2 + 1) ∧ EMF A I A' I' := by
  obtain ⟨e, h1, h2, h3, h4⟩ := h
  obtain ⟨A', I', z1, z2, z3⟩ := Mo_addEntry (sw := sw) h1 hn hx
  refine ⟨A', I', z1, ⟨appE e n x, z2, fun i j hij hj => ?_, fun y => ?_, fun y hy => ?_⟩, z3⟩
  · have hj : j < n + 1 := hj
    unfold appE
    rw [if_neg (by omega)]
    by_cases c : j = n
    · rw [if_pos c]
      intro q
      have := h4 _ ((h3 _).mp ⟨i, by omega, q⟩)
      omega
    · rw [if_neg c]
      exact h2 i j hij (by omega)
  · show InE (appE e n x) (n + 1) y ↔ addS S (some x) y
    rw [appE_in, h3 y]
    unfold addS
    constructor
    · rintro (a | a)
      · exact Or.inl a
      · exact Or.inr (by rw [a])
    · rintro (a | a)
      · exact Or.inl a
      · cases a; exact Or.inr rfl
  · rcases hy with hy | hy
    · have := h4 y hy; omega
    · cases hy; omega
/-- what a part of the reference's merge may change -/
def MoF (A I A' I' : Nat → Nat → Int32) : Prop := (∀ a, (a < 73 ∨ 78 ≤ a) → A' a = A a) ∧ ∀ a b, (a ≠ 64 ∨ (b ≠ 20 ∧ b ≠ 21)) → I' a b = I a b
theorem MoF.rf {A I : Nat → Nat → Int32} : MoF A I A I := ⟨fun _ _ => rfl, fun _ _ _ => rfl⟩
theorem MoF.tr {A I B J C K : Nat → Nat → Int32} (h : MoF A I B J) (g : MoF B J C K) : MoF A I C K := ⟨fun a e => (g.1 a e).trans (h.1 a e), fun a b e => (g.2 a b e).trans (h.2 a b e)⟩
theorem M3F.mo {A A' I : Nat → Nat → Int32} (h : M3F A A') : MoF A I A' I := ⟨fun a ha => h a (by omega), fun _ _ _ => rfl⟩
theorem ZI.mo {A I I' : Nat → Nat → Int32} (h : ZI I I') : MoF A I A I' := ⟨fun _ _ => rfl, fun a b e => h a b (by omega)⟩
theorem EMF.mo {A I A' I' : Nat → Nat → Int32} (h : EMF A I A' I') : MoF A I A' I' := ⟨fun a e => h.1 a (by omega) (by omega) (by omega) (by omega), fun a b e => h.2 a b (by omega)⟩
theorem MoF.lo {A I A' I' : Nat → Nat → Int32} (h : MoF A I A' I') : ∀ a, a < 73 → A' a = A a := fun a ha => h.1 a (Or.inl ha)
section MD
variable {A I : Nat → Nat → Int32} {sw : Bool} {X Y Z : Tre} {s1 s2 : Pst} {f1 f2 : Nat → Option Nat}
theorem Mo_dest1 (h : CxM A X Y Z s1 s2 f1 f2) (v : Vx X Y Z s1 s2 f1 f2) {F : Nat} (vf : vF F = true) : ∃ A', f_Mo_destOf (Wd A I sw) 64 (1 : Int32) (nI F) = some (nI (dst f1 (rnd f1 f1 f2) F), Wd A' I sw) ∧ M3F A A' := by
  obtain ⟨-, -, -, -, -, g1, g2⟩ := h
  obtain ⟨-, -, -, -, -, v6, v7⟩ := v
  exact Mo_destOf (t := 1) (by decide) g1 g2 g1 (fun F G e => (v6 F G e).1) (fun F G e => (v7 F G e).1) v6 (vF_le vf) vf
theorem Mo_dest2 (h : CxM A X Y Z s1 s2 f1 f2) (v : Vx X Y Z s1 s2 f1 f2) {F : Nat} (vf : vF F = true) : ∃ A', f_Mo_destOf (Wd A I sw) 64 (2 : Int32) (nI F) = some (nI (dst f2 (rnd f2 f1 f2) F), Wd A' I sw) ∧ M3F A A' := by
  obtain ⟨-, -, -, -, -, g1, g2⟩ := h
  obtain ⟨-, -, -, -, -, v6, v7⟩ := v
  exact Mo_destOf (t := 2) (by decide) g1 g2 g2 (fun F G e => (v6 F G e).1) (fun F G e => (v7 F G e).1) v7 (vF_le vf) vf
theorem Mo_folderOf {z : Nat} (h : CxM A X Y Z s1 s2 f1 f2) (v : Vx X Y Z s1 s2 f1 f2) (hz : I 64 21 = nI z) (hz16 : z < 16) {a b c : Nat} (ha : vF a = true) (hb : vF b = true) (hc : vF c = true) : ∃ A' I', f_Mo_folderOf (Wd A I sw) 64 (nI a) (nI b) (nI c) = some (nI (fJ (dst f1 (rnd f1 f1 f2)) (dst f2 (rnd f2 f1 f2)) a b c), Wd A' I' sw) ∧ I' 64 21 = nI (cz z (d3 a b c) 1) ∧ M3F A A' ∧ ZI I I' := by
  have a1 := vF_le ha
  have b1 := vF_le hb
  have c1 := vF_le hc
  obtain ⟨B1, z1, z2⟩ := Mo_dest1 (I := I) (sw := sw) h v hc
  obtain ⟨B2, y1, y2⟩ := Mo_dest2 (I := I) (sw := sw) h v hb
  obtain ⟨I1, x1, x2, x3⟩ := Mo_oneOf (A := A) (sw := sw) hz hz16 (w := 1) (by decide) (a := a) (b := b) (c := c) (by omega) (by omega) (by omega)
  have x1' : f_Mo_oneOf (Wd A I sw) 64 (nI a) (nI b) (nI c) (1 : Int32) = _ := x1
  unfold f_Mo_folderOf f_Mo_folderOf_17 f_Mo_folderOf_34
  rw [kk_64, x1', sb, z1, sb, y1, sb, ifc (nI_eq (by omega) (by omega)), ifc (nI_eq (by omega) (by omega)), ifc (nI_eq (by omega) (by omega)), ifc (nI_eq (by omega) (by omega))]
  unfold fJ
  by_cases q1 : b = c
  · simp only [if_pos q1]
    refine ⟨A, I1, ?_, x2, fun _ _ => rfl, x3⟩
    unfold j3
    rw [if_pos q1]
  · by_cases q2 : b = a
    · simp only [if_neg q1, if_pos q2]
      have hd : d3 a b c = false := by unfold d3; simp [q2]
      exact ⟨B1, I, rfl, by rw [hd, hz]; rfl, z2, fun _ _ _ => rfl⟩
    · by_cases q3 : c = a
      · simp only [if_neg q1, if_neg q2, if_pos q3]
        have hd : d3 a b c = false := by unfold d3; simp [q3]
        exact ⟨B2, I, rfl, by rw [hd, hz]; rfl, y2, fun _ _ _ => rfl⟩
      · simp only [if_neg q1, if_neg q2, if_neg q3]
        refine ⟨A, I1, ?_, x2, fun _ _ => rfl, x3⟩
        unfold j3
        rw [if_neg q1, if_neg q3, if_neg q2]
theorem mo_base {i : Nat} (h0 : MTree A 0 X) (hi : i < X.1) : gA (Wd A I sw) false 65 (nI i) = some (nI (X.2.1 i)) := by
  have := Mo_path (I := I) (sw := sw) (t := 0) (by decide) h0 hi
  rw [Nat.mul_zero, Nat.zero_add] at this
  exact this
theorem isSo {n0 n1 : Nat} {s : Pst} (h : WFp n0 n1 s) (hn : n1 ≤ 12) (i : Nat) : o2i (s.1 i) < (0 : Int32) ↔ s.1 i = none := by
  cases e : s.1 i with
  | none => simp [o2i]
  | some j =>
    have := (h.1 i j e).2
    rw [o2i_s]
    exact ⟨fun q => absurd q (neg_lt0 (by omega)), fun q => (by cases q)⟩
theorem Mo_pathOn {t i : Nat} {s : Pst} (ht : t < 3) (h0 : MTree A 0 X) (h1 : MTree A t Y) (hp : MPairs A t s) (hw : WFp X.1 Y.1 s) (hi : i < X.1) : f_Mo_pathOn (Wd A I sw) 64 (nI t) (nI i) = some (nI (pth Y (s.1 i) (X.2.1 i))) := by
  have hX := h0.2.1
  have hY := h1.2.1
  unfold f_Mo_pathOn
  rw [kk_64, rr_64_11, sb, mix, ga_69 (by omega), sb, (hp i (by omega)).1, ifc (isS1 hw hY i), rr_64_0, sb, sb, mo_base h0 hi, sb]
  cases e : s.1 i with
  | none => rw [if_neg (by simp), sb]; rfl
  | some j => rw [if_pos (by simp), o2i_s, mix, Mo_path ht h1 (hw.1 i j e).2, sb, sb]; rfl
theorem Mo_contentOn {t i : Nat} {s : Pst} (ht : t < 3) (h0 : MTree A 0 X) (h1 : MTree A t Y) (hp : MPairs A t s) (hw : WFp X.1 Y.1 s) (hi : i < X.1) : f_Mo_contentOn (Wd A I sw) 64 (nI t) (nI i) = some (nI (ctn Y (s.1 i) (X.2.2 i))) := by
  have hX := h0.2.1
  have hY := h1.2.1
  have e0 : f_Mo_contentAt (Wd A I sw) 64 (0 : Int32) (nI i) = some (nI (X.2.2 i)) := Mo_contentAt (t := 0) (by decide) h0 hi
  unfold f_Mo_contentOn
  rw [kk_64, rr_64_11, sb, mix, ga_69 (by omega), sb, (hp i (by omega)).1, ifc (isS1 hw hY i), e0, sb]
  cases e : s.1 i with
  | none => rw [if_neg (by simp), sb]; rfl
  | some j => rw [if_pos (by simp), o2i_s, Mo_contentAt ht h1 (hw.1 i j e).2, sb, sb]; rfl
theorem Mo_isAsBase {t i : Nat} {s : Pst} (ht : t < 3) (h0 : MTree A 0 X) (h1 : MTree A t Y) (v0 : VT X) (v1 : VT Y) (hp : MPairs A t s) (hw : WFp X.1 Y.1 s) (hi : i < X.1) (hs : ¬ s.1 i = none) : f_Mo_isAsBase (Wd A I sw) 64 (nI t) (nI i) = some (if pth Y (s.1 i) (X.2.1 i) = X.2.1 i ∧ ctn Y (s.1 i) (X.2.2 i) = X.2.2 i then 1 else 0) := by
  have hX := h0.2.1
  have hY := h1.2.1
  have e0 : f_Mo_contentAt (Wd A I sw) 64 (0 : Int32) (nI i) = some (nI (X.2.2 i)) := Mo_contentAt (t := 0) (by decide) h0 hi
  unfold f_Mo_isAsBase
  rw [kk_64, rr_64_11, sb, mix, ga_69 (by omega), sb, (hp i (by omega)).1, ifc (isSo hw hY i), if_neg hs]
  cases e : s.1 i with
  | none => exact absurd e hs
  | some j =>
    have hj := (hw.1 i j e).2
    have p1 := v0.p hi
    have p2 := v1.p hj
    have c1 := v0.c hi
    have c2 := v1.c hj
    rw [o2i_s, rr_64_0, sb, mix, Mo_path ht h1 hj, sb, sb, mo_base h0 hi, sb, ifc (nI_eq (by omega) (by omega)), Mo_contentAt ht h1 hj, sb, e0, sb, ifc (nI_eq (by omega) (by omega))]
    show _ = some (if Y.2.1 j = X.2.1 i ∧ Y.2.2 j = X.2.2 i then 1 else 0)
    by_cases q1 : Y.2.1 j = X.2.1 i
    · by_cases q2 : Y.2.2 j = X.2.2 i
      · rw [if_pos q1, if_pos q2, sb, rz_1, if_pos ⟨q1, q2⟩]
      · rw [if_pos q1, if_neg q2, sb, rz_0, if_neg (fun q => q2 q.2)]
    · rw [if_neg q1, sb, rz_0, if_neg (fun q => q1 q.1)]
theorem Mo_mergeOld {S : Ent → Prop} {n fr i : Nat} (h : CxM A X Y Z s1 s2 f1 f2) (v : Vx X Y Z s1 s2 f1 f2) (g : InvM A I S n fr) (hn : n < 36) (hi : i < X.1) (hfr : fr ≤ i) : ∃ A' I', f_Mo_mergeOld (Wd A I sw) 64 (nI i) = some (Wd A' I' sw) ∧ InvM A' I' (addS S (oldE (dst f1 (rnd f1 f1 f2)) (dst f2 (rnd f2 f1 f2)) X Y Z s1 s2 i)) (n + cO (oldE (dst f1 (rnd f1 f1 f2)) (dst f2 (rnd f2 f1 f2)) X Y Z s1 s2 i)) (i + 1) ∧ MoF A I A' I' := by
  have hD := v.d
  obtain ⟨h0, h1, h2, h3, h4, h5, h6⟩ := id h
  obtain ⟨v0, v1, v2, w1, w2, v6, v7⟩ := id v
  have hX := h0.2.1
  have hY := h1.2.1
  have hZ := h2.2.1
  have m1 : ∀ j, s1.1 i = some j → j < Y.1 := fun j e => (w1.1 i j e).2
  have m2 : ∀ j, s2.1 i = some j → j < Z.1 := fun j e => (w2.1 i j e).2
  have a0 := (v0.2.1 i hi).1
  have b0 := (v0.2.1 i hi).2
  have a1 : vP (pth Y (s1.1 i) (X.2.1 i)) = true := pth_v (n0 := 0) v1 m1 a0
  have a2 : vP (pth Z (s2.1 i) (X.2.1 i)) = true := pth_v (n0 := 0) v2 m2 a0
  have b1 : vC (ctn Y (s1.1 i) (X.2.2 i)) = true := ctn_v v1 m1 b0
  have b2 : vC (ctn Z (s2.1 i) (X.2.2 i)) = true := ctn_v v2 m2 b0
  have q0 := vP_d a0
  have q1 := vP_d a1
  have q2 := vP_d a2
  -- an entry is made
  have mk : ∀ (x y : Int32) (z : Nat), z < 8 → (if x = (0 : Int32) then (if y = (0 : Int32) then ((0 : Int32)) else ((2 : Int32))) else ((2 : Int32))) = nI z → oldE (dst f1 (rnd f1 f1 f2)) (dst f2 (rnd f2 f1 f2)) X Y Z s1 s2 i = some (entO (dst f1 (rnd f1 f1 f2)) (dst f2 (rnd f2 f1 f2)) z i (X.2.1 i) (pth Y (s1.1 i) (X.2.1 i)) (pth Z (s2.1 i) (X.2.1 i)) (X.2.2 i) (ctn Y (s1.1 i) (X.2.2 i)) (ctn Z (s2.1 i) (X.2.2 i))) → ∃ A' I', f_Mo_mergeOld_71 (Wd A I sw) 64 (nI i) x y = some (Wd A' I' sw) ∧ InvM A' I' (addS S (oldE (dst f1 (rnd f1 f1 f2)) (dst f2 (rnd f2 f1 f2)) X Y Z s1 s2 i)) (n + cO (oldE (dst f1 (rnd f1 f1 f2)) (dst f2 (rnd f2 f1 f2)) X Y Z s1 s2 i)) (i + 1) ∧ MoF A I A' I' := by
    intro x y z hz ez eo
    have hv := entO_v (z := z) (i := i) (p0 := X.2.1 i) (c0 := X.2.2 i) hD.1 hD.2 hz (by omega) a1 a2 b1 b2
    have I0F : ZI I (up2 I 64 21 (nI z)) := fun a b e => by
      by_cases c : a = 64
      · exact up2_m (by omega)
      · exact up2_n c
    obtain ⟨A1, I1, r1, r2, r3, r4⟩ := Mo_folderOf (I := up2 I 64 21 (nI z)) (sw := sw) (z := z) h v (up2_s _ _ _ _) (by omega) q0.1 q1.1 q2.1
    have k1 := h.kept r3.lo
    obtain ⟨t0, t1, t2, t3, t4, t5, t6⟩ := id k1
    obtain ⟨I2, l1, l2, l3⟩ := Mo_oneOf (A := A1) (I := I1) (sw := sw) r2 (cz_lt _ (by omega) (by decide)) (w := 1) (by decide) (a := X.2.1 i % 10) (b := pth Y (s1.1 i) (X.2.1 i) % 10) (c := pth Z (s2.1 i) (X.2.1 i) % 10) (by omega) (by omega) (by omega)
    have l1' : f_Mo_oneOf (Wd A1 I1 sw) 64 (nI (X.2.1 i % 10)) (nI (pth Y (s1.1 i) (X.2.1 i) % 10)) (nI (pth Z (s2.1 i) (X.2.1 i) % 10)) (1 : Int32) = _ := l1
    rw [cz_cz] at l2
    obtain ⟨I3, o1, o2, o3⟩ := Mo_contentOf (A := A1) (I := I2) (sw := sw) l2 (cz_lt _ (by omega) (by decide)) b0 b1 b2
    have gI : InvM A1 I3 S n fr := g.kept (r3 74 (by decide)) (r3 75 (by decide)) (r3 76 (by decide)) (r3 77 (by decide)) (by rw [o3 64 20 (by decide), l3 64 20 (by decide), r4 64 20 (by decide), I0F 64 20 (by decide)])
    obtain ⟨A4, I4, u1, u2, u3⟩ := gI.add (sw := sw) hv hn hfr
    have ep1 : ∀ (B J : Nat → Nat → Int32), CxM B X Y Z s1 s2 f1 f2 → f_Mo_pathOn (Wd B J sw) 64 (1 : Int32) (nI i) = some (nI (pth Y (s1.1 i) (X.2.1 i))) := fun B J c => Mo_pathOn (t := 1) (by decide) c.1 c.2.1 c.2.2.2.1 w1 hi
    have ep2 : ∀ (B J : Nat → Nat → Int32), CxM B X Y Z s1 s2 f1 f2 → f_Mo_pathOn (Wd B J sw) 64 (2 : Int32) (nI i) = some (nI (pth Z (s2.1 i) (X.2.1 i))) := fun B J c => Mo_pathOn (t := 2) (by decide) c.1 c.2.2.1 c.2.2.2.2.1 w2 hi
    have ec1 : f_Mo_contentOn (Wd A1 I2 sw) 64 (1 : Int32) (nI i) = some (nI (ctn Y (s1.1 i) (X.2.2 i))) := Mo_contentOn (t := 1) (by decide) t0 t1 t3 w1 hi
    have ec2 : f_Mo_contentOn (Wd A1 I2 sw) 64 (2 : Int32) (nI i) = some (nI (ctn Z (s2.1 i) (X.2.2 i))) := Mo_contentOn (t := 2) (by decide) t0 t2 t4 w2 hi
    have ec0 : f_Mo_contentAt (Wd A1 I2 sw) 64 (0 : Int32) (nI i) = some (nI (X.2.2 i)) := Mo_contentAt (t := 0) (by decide) t0 hi
    refine ⟨A4, I4, ?_, ?_, ((I0F.mo.tr r3.mo).tr ((r4.mo.tr l3.mo).tr o3.mo)).tr u3.mo⟩
    · have e3 : (10 : Int32) * nI (fJ (dst f1 (rnd f1 f1 f2)) (dst f2 (rnd f2 f1 f2)) (X.2.1 i / 10) (pth Y (s1.1 i) (X.2.1 i) / 10) (pth Z (s2.1 i) (X.2.1 i) / 10)) + nI (j3 (X.2.1 i % 10) (pth Y (s1.1 i) (X.2.1 i) % 10) (pth Z (s2.1 i) (X.2.1 i) % 10)) = nI (pJ (dst f1 (rnd f1 f1 f2)) (dst f2 (rnd f2 f1 f2)) (X.2.1 i) (pth Y (s1.1 i) (X.2.1 i)) (pth Z (s2.1 i) (X.2.1 i))) := by
        unfold pJ
        rw [show (10 : Int32) * nI (fJ (dst f1 (rnd f1 f1 f2)) (dst f2 (rnd f2 f1 f2)) (X.2.1 i / 10) (pth Y (s1.1 i) (X.2.1 i) / 10) (pth Z (s2.1 i) (X.2.1 i) / 10)) = nI (10 * fJ (dst f1 (rnd f1 f1 f2)) (dst f2 (rnd f2 f1 f2)) (X.2.1 i / 10) (pth Y (s1.1 i) (X.2.1 i) / 10) (pth Z (s2.1 i) (X.2.1 i) / 10)) from pk_mul 10 _, nI_add]
      have u1' : f_Mo_addEntry (Wd A1 I3 sw) 64 (nI (pJ (dst f1 (rnd f1 f1 f2)) (dst f2 (rnd f2 f1 f2)) (X.2.1 i) (pth Y (s1.1 i) (X.2.1 i)) (pth Z (s2.1 i) (X.2.1 i)))) (nI (cJ (X.2.2 i) (ctn Y (s1.1 i) (X.2.2 i)) (ctn Z (s2.1 i) (X.2.2 i)))) (nI (cz (cz z (d3 (X.2.1 i / 10) (pth Y (s1.1 i) (X.2.1 i) / 10) (pth Z (s2.1 i) (X.2.1 i) / 10) || d3 (X.2.1 i % 10) (pth Y (s1.1 i) (X.2.1 i) % 10) (pth Z (s2.1 i) (X.2.1 i) % 10)) 1) (cD (X.2.2 i) (ctn Y (s1.1 i) (X.2.2 i)) (ctn Z (s2.1 i) (X.2.2 i))) 4)) (nI i) = some (Wd A4 I4 sw) := u1
      unfold f_Mo_mergeOld_71
      rw [ez, ss_64_21, sb, rr_64_0, sb, mo_base h0 hi, sb, ep1 _ _ h, sb, ep2 _ _ h, sb, div10 (by omega), div10 (by omega), div10 (by omega), r1, sb]
      dsimp only
      rw [rr_64_0, sb, mo_base t0 hi, sb, ep1 _ _ k1, sb, ep2 _ _ k1, sb, rem10 (by omega), rem10 (by omega), rem10 (by omega), l1', sb]
      dsimp only
      rw [ec0, sb, ec1, sb, ec2, sb, o1, sb]
      dsimp only
      rw [gg_64_21, sb, o2, e3]
      rw [u1', sb]
    · rw [eo]
      exact u2
  have nn : oldE (dst f1 (rnd f1 f1 f2)) (dst f2 (rnd f2 f1 f2)) X Y Z s1 s2 i = none → ∃ A' I', some (Wd A I sw) = some (Wd A' I' sw) ∧ InvM A' I' (addS S (oldE (dst f1 (rnd f1 f1 f2)) (dst f2 (rnd f2 f1 f2)) X Y Z s1 s2 i)) (n + cO (oldE (dst f1 (rnd f1 f1 f2)) (dst f2 (rnd f2 f1 f2)) X Y Z s1 s2 i)) (i + 1) ∧ MoF A I A' I' := fun e => ⟨A, I, rfl, g.skip e (by omega), MoF.rf⟩
  have x1 : gA (Wd A I sw) false 69 ((12 : Int32) + nI i) = some (o2i (s1.1 i)) := by
    rw [show (12 : Int32) + nI i = nI (12 + i) from nI_add 12 i, ga_69 (by omega)]
    exact congrArg some (h3 i (by omega)).1
  have x2 : gA (Wd A I sw) false 69 ((24 : Int32) + nI i) = some (o2i (s2.1 i)) := by
    rw [show (24 : Int32) + nI i = nI (24 + i) from nI_add 24 i, ga_69 (by omega)]
    exact congrArg some (h4 i (by omega)).1
  have y1 : (if (0 : Int32) ≤ o2i (s1.1 i) then (0 : Int32) else (1 : Int32)) = if s1.1 i = none then 1 else 0 := by
    rw [ifc (isS1 w1 hY i)]
    by_cases c : s1.1 i = none
    · rw [if_neg (fun q => q c), if_pos c]
    · rw [if_pos c, if_neg c]
  have y2 : (if (0 : Int32) ≤ o2i (s2.1 i) then (0 : Int32) else (1 : Int32)) = if s2.1 i = none then 1 else 0 := by
    rw [ifc (isS1 w2 hZ i)]
    by_cases c : s2.1 i = none
    · rw [if_neg (fun q => q c), if_pos c]
    · rw [if_pos c, if_neg c]
  unfold f_Mo_mergeOld
  rw [kk_64, rr_64_11, sb, x1, sb, sb, x2, sb, y1, y2]
  unfold f_Mo_mergeOld_44 f_Mo_mergeOld_57
  by_cases c1 : s1.1 i = none
  · rw [if_pos c1, if_neg (by decide)]
    by_cases c2 : s2.1 i = none
    · rw [if_pos c2, if_neg (by decide)]
      exact nn (by unfold oldE; rw [if_pos ⟨c1, c2⟩])
    · have eb : f_Mo_isAsBase (Wd A I sw) 64 (2 : Int32) (nI i) = _ := Mo_isAsBase (t := 2) (by decide) h0 h2 v0 v2 h4 w2 hi c2
      have e1 : pth Y (s1.1 i) (X.2.1 i) = X.2.1 i := by rw [c1]; rfl
      have e2 : ctn Y (s1.1 i) (X.2.2 i) = X.2.2 i := by rw [c1]; rfl
      rw [if_neg c2, if_pos rfl, if_neg (by decide), eb, sb]
      by_cases c3 : pth Z (s2.1 i) (X.2.1 i) = X.2.1 i ∧ ctn Z (s2.1 i) (X.2.2 i) = X.2.2 i
      · rw [if_pos c3, if_neg (by decide)]
        exact nn (by unfold oldE; rw [if_neg (fun q => c2 q.2), if_pos ⟨Or.inl c1, by rw [e1, c3.1], by rw [e2, c3.2]⟩])
      · rw [if_neg c3, if_pos rfl, if_pos rfl]
        refine mk 1 0 2 (by decide) rfl ?_
        unfold oldE
        rw [if_neg (fun q => c2 q.2), if_neg (fun q => c3 ⟨by rw [← q.2.1, e1], by rw [← q.2.2, e2]⟩), if_pos (Or.inl c1)]
  · rw [if_neg c1, if_pos rfl, if_pos rfl]
    by_cases c2 : s2.1 i = none
    · have eb : f_Mo_isAsBase (Wd A I sw) 64 (1 : Int32) (nI i) = _ := Mo_isAsBase (t := 1) (by decide) h0 h1 v0 v1 h3 w1 hi c1
      have e1 : pth Z (s2.1 i) (X.2.1 i) = X.2.1 i := by rw [c2]; rfl
      have e2 : ctn Z (s2.1 i) (X.2.2 i) = X.2.2 i := by rw [c2]; rfl
      rw [if_pos c2, if_neg (by decide), eb, sb]
      by_cases c3 : pth Y (s1.1 i) (X.2.1 i) = X.2.1 i ∧ ctn Y (s1.1 i) (X.2.2 i) = X.2.2 i
      · rw [if_pos c3, if_neg (by decide)]
        exact nn (by unfold oldE; rw [if_neg (fun q => c1 q.1), if_pos ⟨Or.inr c2, by rw [e1, c3.1], by rw [e2, c3.2]⟩])
      · rw [if_neg c3, if_pos rfl]
        refine mk 0 1 2 (by decide) rfl ?_
        unfold oldE
        rw [if_neg (fun q => c1 q.1), if_neg (fun q => c3 ⟨by rw [q.2.1, e1], by rw [q.2.2, e2]⟩), if_pos (Or.inr c2)]
    · have c4 : ¬ (s1.1 i = none ∨ s2.1 i = none) := fun q => by rcases q with q | q; exact c1 q; exact c2 q
      rw [if_neg c2, if_pos rfl]
      refine mk 0 0 0 (by decide) rfl ?_
      unfold oldE
      rw [if_neg (fun q => c1 q.1), if_neg (fun q => c4 q.1), if_neg c4]
end MD
