-- ===== what the class's and the reference's cells hold =====
def ImC (A I : Nat → Nat → Int32) (k : Nat) (T : Trs) : Prop := TreeIs A I (14 + 10 * k) T.1 ∧ TreeIs A I (17 + 10 * k) T.2.1 ∧ TreeIs A I (20 + 10 * k) T.2.2.1 ∧ I (13 + 10 * k) 3 = nI T.2.2.2
def KC1 (A I : Nat → Nat → Int32) (k : Nat) (o : Option Trs) : Prop := match o with
  | none => A 33 k = 0
  | some T => A 33 k = 1 ∧ ImC A I k T
def KC (A I : Nat → Nat → Int32) (K : Nat → Option Trs) : Prop := ∀ k, k < 2 → KC1 A I k (K k)
def ImM (A : Nat → Nat → Int32) (k : Nat) (T : Trs) : Prop := ∃ P : Nat → Nat → Int32, MTree P 0 T.1 ∧ MTree P 1 T.2.1 ∧ MTree P 2 T.2.2.1 ∧ (∀ j, j < 36 → A 79 (76 * k + j) = P 65 j ∧ A 79 (76 * k + 36 + j) = P 66 j) ∧ (∀ j, j < 3 → A 79 (76 * k + 72 + j) = P 67 j) ∧ A 79 (76 * k + 75) = nI T.2.2.2
def KM1 (A : Nat → Nat → Int32) (k : Nat) (o : Option Trs) : Prop := match o with
  | none => A 80 k = 0
  | some T => A 80 k = 1 ∧ ImM A k T
def KM (A : Nat → Nat → Int32) (K : Nat → Option Trs) : Prop := ∀ k, k < 2 → KM1 A k (K k)
def ClsRel (A I : Nat → Nat → Int32) (sw : Bool) (pn : Nat) (ps : Nat → Nat) (T : Trs) (K : Nat → Option Trs) : Prop := PadC A I pn ps ∧ HC A I sw T ∧ KC A I K ∧ (I 0 9 = 0 ∨ (I 0 9 = 1 ∧ Cache A I sw T))
def ModRel (A I : Nat → Nat → Int32) (pn : Nat) (ps : Nat → Nat) (T : Trs) (K : Nat → Option Trs) : Prop := PadM A I pn ps ∧ MTree A 0 T.1 ∧ MTree A 1 T.2.1 ∧ MTree A 2 T.2.2.1 ∧ I 64 3 = nI T.2.2.2 ∧ KM A K
def Val (pn : Nat) (ps : Nat → Nat) (T : Trs) (K : Nat → Option Trs) : Prop := VPd pn ps ∧ VTs T ∧ ∀ k U, k < 2 → K k = some U → VTs U
/-- the class changed none of the reference's cells; the reference none of the class's -/
def CFr (A I A' I' : Nat → Nat → Int32) : Prop := (∀ a, 64 ≤ a → A' a = A a) ∧ ∀ a, 64 ≤ a → I' a = I a
def RFr (A I A' I' : Nat → Nat → Int32) : Prop := (∀ a, a < 64 → A' a = A a) ∧ ∀ a, a < 64 → I' a = I a
/-- nothing of the class's cells behind the pad was changed -/
def GFr (A I A' I' : Nat → Nat → Int32) : Prop := (∀ a, 3 ≤ a → a < 64 → A' a = A a) ∧ ∀ a, 3 ≤ a → a < 64 → I' a = I a
theorem RFr.g {A I A' I' : Nat → Nat → Int32} (h : RFr A I A' I') : GFr A I A' I' := ⟨fun a _ ha => h.1 a ha, fun a _ ha => h.2 a ha⟩
theorem CFr.rf {A I : Nat → Nat → Int32} : CFr A I A I := ⟨fun _ _ => rfl, fun _ _ => rfl⟩
theorem RFr.rf {A I : Nat → Nat → Int32} : RFr A I A I := ⟨fun _ _ => rfl, fun _ _ => rfl⟩
theorem CFr.tr {A I B J C K : Nat → Nat → Int32} (h : CFr A I B J) (g : CFr B J C K) : CFr A I C K := ⟨fun a e => (g.1 a e).trans (h.1 a e), fun a e => (g.2 a e).trans (h.2 a e)⟩
theorem RFr.tr {A I B J C K : Nat → Nat → Int32} (h : RFr A I B J) (g : RFr B J C K) : RFr A I C K := ⟨fun a e => (g.1 a e).trans (h.1 a e), fun a e => (g.2 a e).trans (h.2 a e)⟩
theorem RfF.cf {A I A' I' : Nat → Nat → Int32} (h : RfF A I A' I') : CFr A I A' I' := ⟨fun a ha => h.1 a (Or.inr ha), fun a ha => funext fun b => h.2 a b (Or.inr ha) (by omega)⟩
section RL
variable {A I A' I' : Nat → Nat → Int32} {sw : Bool} {pn : Nat} {ps : Nat → Nat} {T : Trs} {K : Nat → Option Trs}
theorem isT_lt {r : Nat} (hr : isT r = true) : r + 2 < 33 := by rcases isT_cases hr with rfl | rfl | rfl | rfl | rfl | rfl | rfl | rfl | rfl <;> decide
theorem isT_ge {r : Nat} (hr : isT r = true) : 3 ≤ r := by rcases isT_cases hr with rfl | rfl | rfl | rfl | rfl | rfl | rfl | rfl | rfl <;> decide
theorem GFr.tree (f : GFr A I A' I') {r : Nat} {X : Tre} (hr : isT r = true) (h : TreeIs A I r X) : TreeIs A' I' r X := by
  have := isT_lt hr
  have h3 := isT_ge hr
  exact h.kept (f.2 r (by omega) (by omega)) (f.1 _ (by omega) (by omega)) (f.1 _ (by omega) (by omega))
theorem GFr.cxc (f : GFr A I A' I') {X Y Z : Tre} {s1 s2 : Pst} {f1 f2 : Nat → Option Nat} {n1 n2 : Nat} {st1 st2 : Nat → Nat} (h : CxC A I sw X Y Z s1 s2 f1 f2 n1 n2 st1 st2) : CxC A' I' sw X Y Z s1 s2 f1 f2 n1 n2 st1 st2 := by
  obtain ⟨h1, h2, h3, h4, h5, h6, h7, h8, h9⟩ := h
  refine ⟨f.tree (by decide) h1, f.tree (isT1 sw) h2, f.tree (isT2 sw) h3, fun i hi => ?_, fun i hi => ?_, h6.kept (by rw [f.2 40 (by decide) (by decide)]) (f.1 41 (by decide) (by decide)) (f.1 42 (by decide) (by decide)), h7.kept (by rw [f.2 50 (by decide) (by decide)]) (f.1 51 (by decide) (by decide)) (f.1 52 (by decide) (by decide)), fun k hk => ?_, fun k hk => ?_⟩
  · rw [f.1 (35 + 1) (by decide) (by decide), f.1 (35 + 2) (by decide) (by decide), f.1 (35 + 3) (by decide) (by decide)]; exact h4 i hi
  · rw [f.1 (45 + 1) (by decide) (by decide), f.1 (45 + 2) (by decide) (by decide), f.1 (45 + 3) (by decide) (by decide)]; exact h5 i hi
  · rw [f.1 (40 + 3) (by decide) (by decide)]; exact h8 k hk
  · rw [f.1 (50 + 3) (by decide) (by decide)]; exact h9 k hk
theorem GFr.cache (f : GFr A I A' I') (h : Cache A I sw T) : Cache A' I' sw T := by
  obtain ⟨n1, n2, st1, st2, n, d, m, cp, a1, a2, a3, a4⟩ := h
  refine ⟨n1, n2, st1, st2, n, d, m, cp, f.cxc a1, a2.kept (f.1 57 (by decide) (by decide)) (f.1 58 (by decide) (by decide)) (f.1 59 (by decide) (by decide)) (f.1 60 (by decide) (by decide)) (by rw [f.2 56 (by decide) (by decide)]), a3, ?_⟩
  unfold ClC
  rw [f.2 56 (by decide) (by decide), f.1 61 (by decide) (by decide), f.1 62 (by decide) (by decide)]
  exact a4
theorem isT_im {k : Nat} (hk : k < 2) : isT (14 + 10 * k) = true ∧ isT (17 + 10 * k) = true ∧ isT (20 + 10 * k) = true := by
  rcases (show k = 0 ∨ k = 1 by omega) with rfl | rfl <;> decide
theorem GFr.kc (f : GFr A I A' I') (h : KC A I K) : KC A' I' K := by
  intro k hk
  have := h k hk
  obtain ⟨t1, t2, t3⟩ := isT_im hk
  unfold KC1 at this ⊢
  rw [f.1 33 (by decide) (by decide)]
  split
  · rename_i e
    rw [e] at this
    exact this
  · rename_i U e
    rw [e] at this
    exact ⟨this.1, f.tree t1 this.2.1, f.tree t2 this.2.2.1, f.tree t3 this.2.2.2.1, by rw [f.2 (13 + 10 * k) (by omega) (by omega)]; exact this.2.2.2.2⟩
theorem GFr.hc (f : GFr A I A' I') (h2 : HC A I sw T) : HC A' I' sw T := ⟨f.tree (by decide) h2.1, f.tree (isT1 sw) h2.2.1, f.tree (isT2 sw) h2.2.2.1, by rw [f.2 3 (by decide) (by decide)]; exact h2.2.2.2⟩
/-- the pad alone was changed -/
theorem GFr.pad (f : GFr A I A' I') (h : ClsRel A I sw pn ps T K) (h0 : I' 0 9 = I 0 9) {pn' : Nat} {ps' : Nat → Nat} (hp : PadC A' I' pn' ps') : ClsRel A' I' sw pn' ps' T K := by
  obtain ⟨h1, h2, h3, h4⟩ := h
  refine ⟨hp, f.hc h2, f.kc h3, ?_⟩
  rw [h0]
  rcases h4 with h4 | ⟨h4, h5⟩
  · exact Or.inl h4
  · exact Or.inr ⟨h4, f.cache h5⟩
theorem RFr.cls (f : RFr A I A' I') (h : ClsRel A I sw pn ps T K) : ClsRel A' I' sw pn ps T K := by
  refine f.g.pad h (by rw [f.2 0 (by decide)]) ?_
  unfold PadC
  rw [f.2 1 (by decide), f.1 2 (by decide)]
  exact h.1
theorem CFr.mod (f : CFr A I A' I') (h : ModRel A I pn ps T K) : ModRel A' I' pn ps T K := by
  have e : ∀ k, KM1 A' k (K k) = KM1 A k (K k) := fun k => by
    unfold KM1 ImM
    rw [f.1 79 (by decide), f.1 80 (by decide)]
  unfold ModRel PadM MTree KM at h ⊢
  simp only [f.1 65 (by decide), f.1 66 (by decide), f.1 67 (by decide), f.1 68 (by decide), f.2 64 (by decide), e]
  exact h
end RL
def Inv (A I : Nat → Nat → Int32) (sw : Bool) : Prop := ∃ pn ps T K, Val pn ps T K ∧ ClsRel A I sw pn ps T K ∧ ModRel A I pn ps T K
/-- the class is asked, then the reference: the same answer, and the state holds on -/
def Both (A I : Nat → Nat → Int32) (sw : Bool) (fC fM : Hp → Option (Int32 × Hp)) : Prop := ∃ x B J sb2 C L, fC (Wd A I sw) = some (x, Wd B J sb2) ∧ fM (Wd B J sb2) = some (x, Wd C L sb2) ∧ Inv C L sb2
theorem Both.mk {A I B J C L : Nat → Nat → Int32} {sw s2 : Bool} {fC fM : Hp → Option (Int32 × Hp)} {x : Int32} {pn : Nat} {ps : Nat → Nat} {T : Trs} {K : Nat → Option Trs} (h1 : fC (Wd A I sw) = some (x, Wd B J s2)) (h2 : fM (Wd B J s2) = some (x, Wd C L s2)) (hv : Val pn ps T K) (hc : ClsRel B J s2 pn ps T K) (hm : ModRel C L pn ps T K) (hf : RFr B J C L) : Both A I sw fC fM := ⟨x, B, J, s2, C, L, h1, h2, pn, ps, T, K, hv, hf.cls hc, hm⟩
