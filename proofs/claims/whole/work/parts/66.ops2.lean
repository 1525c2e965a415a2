-- ===== operations that change the trees =====
def setT (T : Trs) (t : Nat) (X : Tre) : Trs := if t = 0 then (X, T.2) else if t = 1 then (T.1, X, T.2.2) else (T.1, T.2.1, X, T.2.2.2)
theorem trR_in (sw : Bool) (t : Nat) : trR sw t = 4 ∨ trR sw t = 7 ∨ trR sw t = 10 := by
  unfold trR
  split
  · exact Or.inl rfl
  · split <;> cases sw
    · exact Or.inr (Or.inl rfl)
    · exact Or.inr (Or.inr rfl)
    · exact Or.inr (Or.inr rfl)
    · exact Or.inr (Or.inl rfl)
theorem trR_ne (sw : Bool) {t u : Nat} (ht : t < 3) (hu : u < 3) (h : t ≠ u) : trR sw t ≠ trR sw u := by
  rcases (show t = 0 ∨ t = 1 ∨ t = 2 by omega) with rfl | rfl | rfl <;> rcases (show u = 0 ∨ u = 1 ∨ u = 2 by omega) with rfl | rfl | rfl <;> first | exact absurd rfl h | (cases sw <;> decide)
theorem HC_iff {A I : Nat → Nat → Int32} {sw : Bool} {T : Trs} : HC A I sw T ↔ (∀ t, t < 3 → TreeIs A I (trR sw t) (trT T t)) ∧ I 3 3 = nI T.2.2.2 := by
  constructor
  · intro h; exact ⟨fun t _ => h.tr t, h.2.2.2⟩
  · rintro ⟨h1, h2⟩; exact ⟨h1 0 (by decide), h1 1 (by decide), h1 2 (by decide), h2⟩
theorem setT_at (T : Trs) (t : Nat) (X : Tre) (ht : t < 3) : trT (setT T t X) t = X := by
  rcases (show t = 0 ∨ t = 1 ∨ t = 2 by omega) with rfl | rfl | rfl <;> rfl
theorem setT_el (T : Trs) {t u : Nat} (X : Tre) (ht : t < 3) (hu : u < 3) (h : u ≠ t) : trT (setT T t X) u = trT T u := by
  rcases (show t = 0 ∨ t = 1 ∨ t = 2 by omega) with rfl | rfl | rfl <;> rcases (show u = 0 ∨ u = 1 ∨ u = 2 by omega) with rfl | rfl | rfl <;> first | exact absurd rfl h | rfl
theorem setT_l (T : Trs) (t : Nat) (X : Tre) : (setT T t X).2.2.2 = T.2.2.2 := by
  unfold setT
  split
  · rfl
  · split <;> rfl
theorem VTs_iff {T : Trs} : VTs T ↔ (∀ t, t < 3 → VT (trT T t)) ∧ 1 ≤ T.2.2.2 ∧ T.2.2.2 ≤ 100 := by
  constructor
  · intro h; exact ⟨fun t _ => h.tr t, h.2.2.2.1, h.2.2.2.2⟩
  · rintro ⟨h1, h2, h3⟩; exact ⟨h1 0 (by decide), h1 1 (by decide), h1 2 (by decide), h2, h3⟩
theorem VTs.set {T : Trs} (h : VTs T) {t : Nat} (ht : t < 3) {X : Tre} (hX : VT X) : VTs (setT T t X) := by
  rw [VTs_iff, setT_l]
  refine ⟨fun u hu => ?_, h.2.2.2.1, h.2.2.2.2⟩
  by_cases c : u = t
  · rw [c, setT_at T t X ht]; exact hX
  · rw [setT_el T X ht hu c]; exact h.tr u
theorem HC.set {A I A' I' : Nat → Nat → Int32} {sw : Bool} {T : Trs} (h : HC A I sw T) {t : Nat} (ht : t < 3) {X : Tre} (f : TF (trR sw t) A I A' I') (hX : TreeIs A' I' (trR sw t) X) : HC A' I' sw (setT T t X) := by
  rw [HC_iff, setT_l]
  refine ⟨fun u hu => ?_, ?_⟩
  · by_cases c : u = t
    · rw [c, setT_at T t X ht]; exact hX
    · rw [setT_el T X ht hu c]; exact f.other (isTr sw t) (isTr sw u) (trR_ne sw hu ht c) (h.tr u)
  · rw [f.2 3 (by rcases trR_in sw t with q | q | q <;> omega)]; exact h.2.2.2
theorem KC.kept {A I A' I' : Nat → Nat → Int32} {K : Nat → Option Trs} (h : KC A I K) (h1 : ∀ a, 13 ≤ a → a < 34 → A' a = A a) (h2 : ∀ a, 13 ≤ a → a < 34 → I' a = I a) : KC A' I' K := by
  intro k hk
  have := h k hk
  obtain ⟨t1, t2, t3⟩ := isT_im hk
  unfold KC1 at this ⊢
  rw [h1 33 (by decide) (by decide)]
  split
  · rename_i e; rw [e] at this; exact this
  · rename_i U e
    rw [e] at this
    obtain ⟨b1, b2, b3, b4, b5⟩ := this
    exact ⟨b1, b2.kept (h2 _ (by omega) (by omega)) (h1 _ (by omega) (by omega)) (h1 _ (by omega) (by omega)), b3.kept (h2 _ (by omega) (by omega)) (h1 _ (by omega) (by omega)) (h1 _ (by omega) (by omega)), b4.kept (h2 _ (by omega) (by omega)) (h1 _ (by omega) (by omega)) (h1 _ (by omega) (by omega)), by rw [h2 _ (by omega) (by omega)]; exact b5⟩
/-- a tree of the class was changed, nothing is known of the pairs -/
theorem ClsRel.set {A I A' I' : Nat → Nat → Int32} {sw : Bool} {pn : Nat} {ps : Nat → Nat} {T : Trs} {K : Nat → Option Trs} (h : ClsRel A I sw pn ps T K) {t : Nat} (ht : t < 3) {X : Tre} (f : TF (trR sw t) A I A' I') (hX : TreeIs A' I' (trR sw t) X) : ClsRel A' (up2 I' 0 9 0) sw pn ps (setT T t X) K ∧ CFr A I A' (up2 I' 0 9 0) := by
  have hr := trR_in sw t
  have e0 : ∀ a, a ≠ 0 → up2 I' 0 9 0 a = I' a := fun a ha => up2_fn ha
  have g : HC A' I' sw (setT T t X) := h.2.1.set ht f hX
  refine ⟨⟨?_, ?_, ?_, Or.inl (up2_s _ _ _ _)⟩, fun a ha => f.1 a (by omega) (by omega), fun a ha => (e0 a (by omega)).trans (f.2 a (by omega))⟩
  · unfold PadC
    rw [e0 1 (by decide), f.1 2 (by omega) (by omega), f.2 1 (by omega)]
    exact h.1
  · rw [HC_iff] at g ⊢
    refine ⟨fun u hu => ?_, by rw [e0 3 (by decide)]; exact g.2⟩
    have := trR_in sw u
    exact (g.1 u hu).kept (e0 _ (by omega)) rfl rfl
  · exact h.2.2.1.kept (fun a ha _ => f.1 a (by omega) (by omega)) (fun a ha _ => (e0 a (by omega)).trans (f.2 a (by omega)))
theorem ModRel.set {A I A' : Nat → Nat → Int32} {pn : Nat} {ps : Nat → Nat} {T : Trs} {K : Nat → Option Trs} (h : ModRel A I pn ps T K) {t : Nat} (ht : t < 3) {X : Tre} (f : MFr t A A') (hX : MTree A' t X) : ModRel A' I pn ps (setT T t X) K ∧ RFr A I A' I := by
  have g : ∀ u, u < 3 → MTree A' u (trT (setT T t X) u) := fun u hu => by
    by_cases c : u = t
    · rw [c, setT_at T t X ht]; exact hX
    · rw [setT_el T X ht hu c]; exact f.other c (h.tr hu)
  refine ⟨⟨?_, g 0 (by decide), g 1 (by decide), g 2 (by decide), by rw [setT_l]; exact h.2.2.2.2.1, ?_⟩, fun a ha => f.1 a (by omega) (by omega) (by omega), fun _ _ => rfl⟩
  · have := h.1
    unfold PadM at this ⊢
    rw [f.1 68 (by decide) (by decide) (by decide)]
    exact this
  · have := h.2.2.2.2.2
    unfold KM KM1 ImM at this ⊢
    rw [f.1 79 (by decide) (by decide) (by decide), f.1 80 (by decide) (by decide) (by decide)]
    exact this
section O2
variable {A I : Nat → Nat → Int32} {sw : Bool}
theorem op_drop (h : Inv A I sw) (x y : Int32) : Both A I sw (fun h => f_MF_drop h 0 x y) (fun h => f_Mo_drop h 64 x y) := by
  obtain ⟨pn, ps, T, K, hv, hc, hm⟩ := h
  rcases isFl (J := I) hc.2.1 (fun t ht => hm.tr ht) sw x y with ⟨e1, e2⟩ | ⟨t, i, ht, hi, rfl, rfl, e1, e2⟩
  · refine Both.mk (x := -1) (B := A) (J := I) (C := A) (L := I) ?_ ?_ hv hc hm RFr.rf
    · unfold f_MF_drop
      rw [kk_0, e1, sb, if_pos rfl]
    · unfold f_Mo_drop
      rw [kk_64, e2, sb, if_pos rfl]
  · obtain ⟨B, J, z1, z2, z3⟩ := Tree_remove (sw := sw) (isTr sw t) (hc.2.1.tr t) hi
    obtain ⟨q1, q2⟩ := hc.set ht z3 z2
    have hm2 := q2.mod hm
    obtain ⟨C, w1, w2, w3⟩ := Mo_drop (I := up2 J 0 9 0) (sw := sw) ht (hm2.tr ht) hi
    obtain ⟨r1, r2⟩ := hm2.set ht w2 w3
    refine Both.mk (x := nI ((trT T t).1 - 1)) ?_ w1 ⟨hv.1, hv.2.1.set ht (dropT_V (hv.2.1.tr t) hi), hv.2.2⟩ q1 r1 r2
    have hT : TreeIs B (up2 J 0 9 0) (trR sw t) (dropT (trT T t) i) := by
      have := trR_in sw t
      exact z2.kept (up2_fn (by omega)) rfl rfl
    unfold f_MF_drop
    rw [kk_0, e1, sb, if_neg (show ¬ (1 : Int32) = 0 by decide), MF_treeOf ht, sb, z1, sb, ss_0_9, sb, MF_treeOf ht, sb, Tree_size (isTr sw t) hT, sb]
    rfl
theorem op_copy (h : Inv A I sw) (x : Int32) : Both A I sw (fun h => f_MF_copy h 0 x) (fun h => f_Mo_copy h 64 x) := by
  obtain ⟨pn, ps, T, K, hv, hc, hm⟩ := h
  have no : (x = nI 0 ∨ x < 0 ∨ nI 3 ≤ x) → Both A I sw (fun h => f_MF_copy h 0 x) (fun h => f_Mo_copy h 64 x) := by
    intro q
    refine Both.mk (x := -1) (B := A) (J := I) (C := A) (L := I) ?_ ?_ hv hc hm RFr.rf
    · unfold f_MF_copy
      rw [kk_0, MF_isSide_out q, sb, if_pos rfl]
    · unfold f_Mo_copy
      rw [kk_64, Mo_isSide_out q, sb, if_pos rfl]
  rcases tri x with ⟨t, ht, rfl⟩ | q
  · by_cases t0 : t = 0
    · exact no (Or.inl (by rw [t0]))
    · have h1 : 1 ≤ t := by omega
      obtain ⟨B, J, z1, z2, z3⟩ := Tree_take (sw := sw) (q := 4) (isTr sw t) (by decide) (fun q => by have := trR_ne sw (t := 0) (u := t) (by decide) ht (by omega); exact this q) hc.2.1.1
      obtain ⟨q1, q2⟩ := hc.set ht z3 z2
      have hm2 := q2.mod hm
      obtain ⟨C, w1, w2, w3⟩ := Mo_copy (I := up2 J 0 9 0) (sw := sw) ht h1 hm2.2.1
      obtain ⟨r1, r2⟩ := hm2.set ht w2 w3
      refine Both.mk (x := nI T.1.1) ?_ w1 ⟨hv.1, hv.2.1.set ht hv.2.1.1, hv.2.2⟩ q1 r1 r2
      have hT : TreeIs B (up2 J 0 9 0) (trR sw t) T.1 := by
        have := trR_in sw t
        exact z2.kept (up2_fn (by omega)) rfl rfl
      unfold f_MF_copy
      rw [kk_0, MF_isSide_in h1 ht, sb, if_neg (show ¬ (1 : Int32) = 0 by decide), MF_treeOf ht, sb, rr_0_1, sb, rr_3_0, sb, z1, sb, ss_0_9, sb, MF_treeOf ht, sb, Tree_size (isTr sw t) hT, sb]
  · exact no (Or.inr q)
end O2
