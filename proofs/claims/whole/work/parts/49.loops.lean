-- ===== rounds =====
/-- b is reached from a by moves of either side -/
def Reach (f1 f2 : Nat → Option Nat) (a b : Nat) : Prop := ∀ S : Nat → Prop, S a → (∀ F G, S F → (f1 F = some G ∨ f2 F = some G) → S G) → S b
noncomputable def rdB (f1 f2 : Nat → Option Nat) (a b : Nat) : Bool := @decide (Reach f1 f2 a b) (Classical.propDecidable _)
theorem rdB_iff {f1 f2 : Nat → Option Nat} {a b : Nat} : rdB f1 f2 a b = true ↔ Reach f1 f2 a b := by
  unfold rdB
  exact @decide_eq_true_iff _ (Classical.propDecidable _)
theorem Reach.rf {f1 f2 : Nat → Option Nat} {a : Nat} : Reach f1 f2 a a := fun _ h _ => h
theorem Reach.st {f1 f2 : Nat → Option Nat} {a b c : Nat} (h : Reach f1 f2 a b) (e : f1 b = some c ∨ f2 b = some c) : Reach f1 f2 a c := fun S h1 h2 => h2 b c (h S h1 h2) e
/-- a move of the side goes round -/
noncomputable def rnd (f f1 f2 : Nat → Option Nat) (F : Nat) : Bool := match f F with
  | some a => rdB f1 f2 a F
  | none => false
-- counting
theorem cnt_mono {p q : Nat → Bool} : ∀ n, (∀ t, t < n → p t = true → q t = true) → cnt p n ≤ cnt q n := by
  intro n
  induction n with
  | zero => intro _; exact Nat.le_refl _
  | succ n ih =>
    intro h
    rw [cnt, cnt]
    have h1 := ih (fun t ht => h t (by omega))
    have h2 := h n (by omega)
    cases e : p n with
    | false => simp; split <;> omega
    | true => rw [h2 e]; omega
def mem (L : Nat → Nat) (N F : Nat) : Bool := (fnd (fun k => decide (L k = F)) 0 N).isSome
theorem mem_iff {L : Nat → Nat} {N F : Nat} : mem L N F = true ↔ ∃ k, k < N ∧ L k = F := by
  unfold mem
  have h := fnd_mem (q := fun k => decide (L k = F)) (n := N)
  rw [Option.isSome_iff_ne_none, h]
  constructor
  · rintro ⟨k, a, b⟩; exact ⟨k, a, of_decide_eq_true b⟩
  · rintro ⟨k, a, b⟩; exact ⟨k, a, decide_eq_true b⟩
theorem mem_no {L : Nat → Nat} {N F : Nat} : mem L N F = false ↔ ∀ k, k < N → L k ≠ F := by
  rw [Bool.eq_false_iff, Ne, mem_iff]
  constructor
  · intro h k hk e; exact h ⟨k, hk, e⟩
  · rintro h ⟨k, hk, e⟩; exact h k hk e
theorem mem_s {L : Nat → Nat} {N F : Nat} : mem L (N + 1) F = true ↔ mem L N F = true ∨ L N = F := by
  rw [mem_iff, mem_iff]
  constructor
  · rintro ⟨k, a, b⟩
    by_cases c : k = N
    · subst c; exact Or.inr b
    · exact Or.inl ⟨k, by omega, b⟩
  · rintro (⟨k, a, b⟩ | b)
    · exact ⟨k, by omega, b⟩
    · exact ⟨N, by omega, b⟩
theorem cnt_list {L : Nat → Nat} : ∀ N, (∀ a b, a < b → b < N → L a ≠ L b) → (∀ k, k < N → L k < 445) → cnt (mem L N) 445 = N := by
  intro N
  induction N with
  | zero =>
    intro _ _
    have : mem L 0 = fun _ => false := by funext F; rfl
    rw [this]
    decide +kernel
  | succ N ih =>
    intro h1 h2
    have h3 := ih (fun a b x y => h1 a b x (by omega)) (fun k hk => h2 k (by omega))
    have h4 := cnt_one (q := mem L (N + 1)) (p := mem L N) (k := L N) 445 (h2 N (by omega)) (mem_s.mpr (Or.inr rfl)) (mem_no.mpr (fun k hk => h1 k N hk (by omega))) (fun t ht => by
      cases e : mem L (N + 1) t with
      | true =>
        rcases mem_s.mp e with q | q
        · exact q
        · exact absurd q.symm ht
      | false =>
        rw [mem_no] at e ⊢
        exact fun k hk => e k (by omega))
    omega
theorem cnt_mem_le {T : Nat → Nat} : ∀ n, cnt (mem T n) 445 ≤ n := by
  intro n
  induction n with
  | zero =>
    have : mem T 0 = fun _ => false := by funext F; rfl
    rw [this]
    decide +kernel
  | succ n ih =>
    by_cases c : mem T n (T n) = true ∨ ¬ T n < 445
    · refine Nat.le_trans (cnt_mono (q := mem T n) 445 (fun t ht h => ?_)) (by omega)
      rcases mem_s.mp h with q | q
      · exact q
      · subst q
        rcases c with c | c
        · exact c
        · exact absurd ht c
    · have c1 : T n < 445 := Decidable.byContradiction (fun q => c (Or.inr q))
      have c2 : mem T n (T n) = false := by
        cases e : mem T n (T n) with
        | false => rfl
        | true => exact absurd (Or.inl e) c
      have h4 := cnt_one (q := mem T (n + 1)) (p := mem T n) (k := T n) 445 c1 (mem_s.mpr (Or.inr rfl)) c2 (fun t ht => by
        cases e : mem T (n + 1) t with
        | true =>
          rcases mem_s.mp e with q | q
          · exact q
          · exact absurd q.symm ht
        | false =>
          rw [mem_no] at e ⊢
          exact fun k hk => e k (by omega))
      omega
/-- different numbers that are all in a list are no more than it has -/
theorem pig {L T : Nat → Nat} {N M : Nat} (h1 : ∀ a b, a < b → b < N → L a ≠ L b) (h2 : ∀ k, k < N → L k < 445) (h3 : ∀ k, k < N → ∃ j, j < M ∧ T j = L k) : N ≤ M := by
  have a1 := cnt_list N h1 h2
  have a2 := cnt_mem_le (T := T) M
  have a3 := cnt_mono (p := mem L N) (q := mem T M) 445 (fun t _ h => by
    obtain ⟨k, b1, b2⟩ := mem_iff.mp h
    obtain ⟨j, b3, b4⟩ := h3 k b1
    exact mem_iff.mpr ⟨j, b3, b4.trans b2⟩)
  omega
theorem MovesIs.kept {A I A' I' : Nat → Nat → Int32} {m n : Nat} {f : Nat → Option Nat} {st : Nat → Nat} (h : MovesIs A I m f n st) (h1 : I' m 3 = I m 3) (h2 : A' (m + 1) = A (m + 1)) (h3 : A' (m + 2) = A (m + 2)) : MovesIs A' I' m f n st := by
  unfold MovesIs
  rw [h1, h2, h3]
  exact h
def LoopsIs (A I : Nat → Nat → Int32) (N : Nat) (L : Nat → Nat) : Prop := I 54 1 = nI N ∧ N ≤ 24 ∧ ∀ k, k < N → A 55 k = nI (L k) ∧ L k ≤ 444
def LF (A I A' I' : Nat → Nat → Int32) : Prop := (∀ a, a ≠ 55 → A' a = A a) ∧ ∀ a b, a ≠ 54 → I' a b = I a b
theorem LF.tr {A I B J C K : Nat → Nat → Int32} (h : LF A I B J) (g : LF B J C K) : LF A I C K := ⟨fun a h1 => (g.1 a h1).trans (h.1 a h1), fun a b hb => (g.2 a b hb).trans (h.2 a b hb)⟩
theorem LF.moves {A I B J : Nat → Nat → Int32} (h : LF A I B J) {m n : Nat} {f : Nat → Option Nat} {st : Nat → Nat} (hm : isM m = true) (g : MovesIs A I m f n st) : MovesIs B J m f n st := by
  refine g.kept (h.2 m 3 ?_) (h.1 _ ?_) (h.1 _ ?_) <;> (rcases isM_cases hm with rfl | rfl <;> decide)
section LC
variable {A I : Nat → Nat → Int32} {sw : Bool} {N : Nat} {L : Nat → Nat} {f1 f2 : Nat → Option Nat} {n1 n2 : Nat} {st1 st2 : Nat → Nat}
theorem Loops_isReached (h : LoopsIs A I N L) {F : Nat} (hF : F < 2 ^ 31) : f_Loops_isReached (Wd A I sw) 54 (nI F) = some (if mem L N F = true then 1 else 0) := by
  have hn := h.2.1
  have key : ∀ (k i g : Nat), i + k = N → k < g → f_Loops_isReached_2 (Wd A I sw) 54 (nI F) g (nI i) = some (if (fnd (fun k => decide (L k = F)) i k).isSome = true then 1 else 0) := by
    intro k
    induction k with
    | zero =>
      intro i g e1 e2
      obtain ⟨g, rfl⟩ : ∃ q, g = q + 1 := ⟨g - 1, by omega⟩
      rw [f_Loops_isReached_2, gg_54_1, sb, h.1, ifc (nI_leI (by omega) (by omega)), if_pos (by omega), rz_0]
      rfl
    | succ k ih =>
      intro i g e1 e2
      obtain ⟨g, rfl⟩ : ∃ q, g = q + 1 := ⟨g - 1, by omega⟩
      obtain ⟨a1, a2⟩ := h.2.2 i (by omega)
      rw [f_Loops_isReached_2, gg_54_1, sb, h.1, ifc (nI_leI (by omega) (by omega)), if_neg (by omega), rr_54_0, sb, ga_55 (by omega), sb, a1, ifc (nI_eq (by omega) hF), fnd, add1]
      by_cases c : L i = F
      · rw [if_pos c, rz_1]
        simp [c]
      · rw [if_neg c, ih (i + 1) g (by omega) (by omega)]
        simp [c]
  unfold f_Loops_isReached
  rw [kk_54]
  exact key N 0 FU (by omega) (by rw [FU_eq]; omega)
/-- one more, if it is one and not there -/
def addL (N : Nat) (L : Nat → Nat) (x : Option Nat) : Nat × (Nat → Nat) := match x with
  | none => (N, L)
  | some G => if mem L N G = true then (N, L) else (N + 1, fun k => if k = N then G else L k)
theorem Loops_add (h : LoopsIs A I N L) (x : Option Nat) (hx : ∀ G, x = some G → G ≤ 444) (hb : (addL N L x).1 ≤ 24) : ∃ A' I', f_Loops_add (Wd A I sw) 54 (o2i x) = some (Wd A' I' sw) ∧ LoopsIs A' I' (addL N L x).1 (addL N L x).2 ∧ LF A I A' I' := by
  have hn := h.2.1
  unfold f_Loops_add
  rw [kk_54]
  cases x with
  | none =>
    rw [o2i_n, if_pos rfl, sb]
    exact ⟨A, I, rfl, h, fun _ _ => rfl, fun _ _ _ => rfl⟩
  | some G =>
    have hG := hx G rfl
    rw [o2i_s, if_neg (nI_ne6 (by omega)), gg_54_1, sb, rr_54_0, sb, la_55, sb, h.1, ifc (nI_leI (by omega) (by omega)), if_neg (by omega), Loops_isReached h (by omega), sb, sb, sb]
    unfold addL at hb ⊢
    dsimp only at hb ⊢
    by_cases c : mem L N G = true
    · rw [if_pos c, if_neg (by decide), sb, if_pos c]
      exact ⟨A, I, rfl, h, fun _ _ => rfl, fun _ _ _ => rfl⟩
    · rw [if_neg c] at hb
      dsimp only at hb
      rw [if_neg c, if_pos rfl, sa_55 (by omega), sb, gg_54_1, sb, h.1, ss_54_1, sb, sb, add1, if_neg c]
      refine ⟨up2 A 55 N (nI G), up2 I 54 1 (nI (N + 1)), rfl, ⟨up2_s _ _ _ _, hb, fun k hk => ?_⟩, fun a ha => up2_fn ha, fun a b hb => up2_n hb⟩
      rw [up2_at]
      dsimp only
      by_cases c2 : k = N
      · rw [if_pos c2, if_pos c2]
        exact ⟨rfl, hG⟩
      · rw [if_neg c2, if_neg c2]
        exact h.2.2 k (by omega)
/-- what a search from a knows: it went on from the first i of its list -/
def BI (f1 f2 : Nat → Option Nat) (a i N : Nat) (L : Nat → Nat) : Prop := i ≤ N ∧ (∀ x y, x < y → y < N → L x ≠ L y) ∧ (∀ k, k < N → L k ≤ 444 ∧ Reach f1 f2 a (L k)) ∧ (∃ k, k < N ∧ L k = a) ∧ ∀ k, k < i → ∀ G, (f1 (L k) = some G ∨ f2 (L k) = some G) → ∃ j, j < N ∧ L j = G
theorem addL_old {x : Option Nat} {k : Nat} (hk : k < N) : k < (addL N L x).1 ∧ (addL N L x).2 k = L k := by
  unfold addL
  split
  · exact ⟨hk, rfl⟩
  · split
    · exact ⟨hk, rfl⟩
    · dsimp only
      exact ⟨by omega, by rw [if_neg (by omega)]⟩
theorem addL_new {x : Option Nat} {G : Nat} (e : x = some G) : ∃ k, k < (addL N L x).1 ∧ (addL N L x).2 k = G := by
  subst e
  unfold addL
  dsimp only
  split
  · rename_i h
    exact mem_iff.mp h
  · dsimp only
    exact ⟨N, by omega, by rw [if_pos rfl]⟩
theorem addL_only {x : Option Nat} {k : Nat} (hk : k < (addL N L x).1) : (k < N ∧ (addL N L x).2 k = L k) ∨ ∃ G, x = some G ∧ (addL N L x).2 k = G ∧ k = N := by
  unfold addL at hk ⊢
  split at hk
  · exact Or.inl ⟨hk, rfl⟩
  · rename_i G
    split at hk
    · rename_i h
      rw [if_pos h]
      exact Or.inl ⟨hk, rfl⟩
    · rename_i h
      rw [if_neg h]
      dsimp only at hk ⊢
      by_cases c : k = N
      · exact Or.inr ⟨G, rfl, by rw [if_pos c], c⟩
      · exact Or.inl ⟨by omega, by rw [if_neg c]⟩
theorem addL_dist {x : Option Nat} (h : ∀ a b, a < b → b < N → L a ≠ L b) : ∀ a b, a < b → b < (addL N L x).1 → (addL N L x).2 a ≠ (addL N L x).2 b := by
  unfold addL
  split
  · exact h
  · rename_i G
    split
    · exact h
    · rename_i hm
      rw [Bool.not_eq_true, mem_no] at hm
      dsimp only
      intro a b hab hb
      by_cases c : b = N
      · rw [if_neg (by omega), if_pos c]
        exact hm a (by omega)
      · rw [if_neg (by omega), if_neg c]
        exact h a b hab (by omega)
theorem addL_BI {a i : Nat} {x : Option Nat} (h : BI f1 f2 a i N L) (hx : ∀ G, x = some G → G ≤ 444 ∧ Reach f1 f2 a G) : BI f1 f2 a i (addL N L x).1 (addL N L x).2 := by
  obtain ⟨h1, h2, h3, h4, h5⟩ := h
  have hmono : N ≤ (addL N L x).1 := by
    unfold addL
    split
    · exact Nat.le_refl _
    · split
      · exact Nat.le_refl _
      · exact Nat.le_succ _
  refine ⟨Nat.le_trans h1 hmono, addL_dist h2, fun k hk => ?_, ?_, fun k hk G e => ?_⟩
  · rcases addL_only hk with ⟨q1, q2⟩ | ⟨G, q1, q2, q3⟩
    · rw [q2]; exact h3 k q1
    · rw [q2]; exact hx G q1
  · obtain ⟨k, q1, q2⟩ := h4
    have := addL_old (L := L) (x := x) q1
    exact ⟨k, this.1, this.2.trans q2⟩
  · rw [(addL_old (L := L) (x := x) (show k < N by omega)).2] at e
    obtain ⟨j, q1, q2⟩ := h5 k hk G e
    have := addL_old (L := L) (x := x) q1
    exact ⟨j, this.1, this.2.trans q2⟩
/-- the list holds targets only: it has at most 24 -/
theorem BI_le {a i : Nat} (g1 : MovesIs A I 40 f1 n1 st1) (g2 : MovesIs A I 50 f2 n2 st2) (ha : (∃ F, f1 F = some a) ∨ ∃ F, f2 F = some a) (h : BI f1 f2 a i N L) : N ≤ 24 := by
  obtain ⟨h1, h2, h3, h4, h5⟩ := h
  have b1 := g1.2.1
  have b2 := g2.2.1
  refine Nat.le_trans (pig (T := fun k => if k < n1 then (f1 (st1 k)).getD 0 else (f2 (st2 (k - n1))).getD 0) (M := n1 + n2) h2 (fun k hk => by have := (h3 k hk).1; omega) (fun k hk => ?_)) (by omega)
  have hT : ∀ G, ((∃ F, f1 F = some G) ∨ ∃ F, f2 F = some G) → ∃ j, j < n1 + n2 ∧ (if j < n1 then (f1 (st1 j)).getD 0 else (f2 (st2 (j - n1))).getD 0) = G := by
    rintro G (⟨F, e⟩ | ⟨F, e⟩)
    · obtain ⟨k, q1, q2⟩ := (g1.2.2.2.2.1 F).mp (by rw [e]; exact Option.some_ne_none _)
      exact ⟨k, by omega, by rw [if_pos q1, q2, e]; rfl⟩
    · obtain ⟨k, q1, q2⟩ := (g2.2.2.2.2.1 F).mp (by rw [e]; exact Option.some_ne_none _)
      exact ⟨n1 + k, by omega, by rw [if_neg (by omega), Nat.add_sub_cancel_left, q2, e]; rfl⟩
  exact hT (L k) ((h3 k hk).2 (fun G => (∃ F, f1 F = some G) ∨ ∃ F, f2 F = some G) ha (fun F G _ e => by rcases e with e | e; exact Or.inl ⟨F, e⟩; exact Or.inr ⟨F, e⟩))
theorem BI_end {a : Nat} (h : BI f1 f2 a N N L) (F : Nat) : mem L N F = rdB f1 f2 a F := by
  obtain ⟨h1, h2, h3, h4, h5⟩ := h
  have : mem L N F = true ↔ rdB f1 f2 a F = true := by
    rw [rdB_iff, mem_iff]
    constructor
    · rintro ⟨k, a1, a2⟩; rw [← a2]; exact (h3 k a1).2
    · intro h
      exact h (fun G => ∃ k, k < N ∧ L k = G) h4 (fun F G ⟨k, a1, a2⟩ e => h5 k a1 G (by rw [a2]; exact e))
  cases e : mem L N F with
  | true => exact (this.mp e).symm
  | false =>
    cases e2 : rdB f1 f2 a F with
    | false => rfl
    | true => rw [this.mpr e2] at e; cases e
theorem Loops_reachFrom (g1 : MovesIs A I 40 f1 n1 st1) (g2 : MovesIs A I 50 f2 n2 st2) {a : Nat} (ha : (∃ F, f1 F = some a) ∨ ∃ F, f2 F = some a) : ∃ A' I' N L, f_Loops_reachFrom (Wd A I sw) 54 (nI a) 40 50 = some (Wd A' I' sw) ∧ LoopsIs A' I' N L ∧ LF A I A' I' ∧ ∀ F, mem L N F = rdB f1 f2 a F := by
  have b1 : ∀ F G, f1 F = some G → G ≤ 444 := g1.2.2.2.2.2.2
  have b2 : ∀ F G, f2 F = some G → G ≤ 444 := g2.2.2.2.2.2.2
  have haB : a ≤ 444 := by
    rcases ha with ⟨F, e⟩ | ⟨F, e⟩
    · exact b1 F a e
    · exact b2 F a e
  have key : ∀ (k i g : Nat) (B J : Nat → Nat → Int32) (N : Nat) (L : Nat → Nat), i + k = 25 → k < g → LF A I B J → LoopsIs B J N L → BI f1 f2 a i N L → ∃ A' I' N L, f_Loops_reachFrom_13 54 40 50 g (nI i) (Wd B J sw) = some (Wd A' I' sw) ∧ LoopsIs A' I' N L ∧ LF A I A' I' ∧ ∀ F, mem L N F = rdB f1 f2 a F := by
    intro k
    induction k with
    | zero =>
      intro i g B J N L e1 e2 e3 e4 e5
      have := BI_le (e3.moves (m := 40) (by decide) g1) (e3.moves (m := 50) (by decide) g2) ha e5
      have := e5.1
      omega
    | succ k ih =>
      intro i g B J N L e1 e2 e3 e4 e5
      obtain ⟨g, rfl⟩ : ∃ q, g = q + 1 := ⟨g - 1, by omega⟩
      have m1 := e3.moves (m := 40) (by decide) g1
      have m2 := e3.moves (m := 50) (by decide) g2
      have hN := BI_le m1 m2 ha e5
      rw [f_Loops_reachFrom_13, rr_54_0, sb, la_55, sb, ifc (nI_leI (by omega) (by omega)), if_neg (by omega), gg_54_1, sb, e4.1, ifc (nI_leI (by omega) (by omega))]
      by_cases c : N ≤ i
      · rw [if_pos c]
        have hi : i = N := by have := e5.1; omega
        subst hi
        exact ⟨B, J, i, L, rfl, e4, e3, BI_end e5⟩
      · obtain ⟨l1, l2⟩ := e4.2.2 i (by omega)
        rw [if_neg c, sb, ga_55 (by omega), sb, l1, Moves_targetOf (m := 40) (by decide) m1 (by omega), sb]
        have hr := (e5.2.2.1 i (by omega)).2
        have x1 : BI f1 f2 a i (addL N L (f1 (L i))).1 (addL N L (f1 (L i))).2 := addL_BI e5 (fun G e => ⟨b1 _ G e, hr.st (Or.inl e)⟩)
        obtain ⟨B1, J1, y1, y2, y3⟩ := Loops_add (sw := sw) e4 (f1 (L i)) (fun G e => b1 _ G e) (BI_le m1 m2 ha x1)
        have e31 := e3.tr y3
        have n1' := e31.moves (m := 40) (by decide) g1
        have n2' := e31.moves (m := 50) (by decide) g2
        have hiN := addL_old (L := L) (x := f1 (L i)) (show i < N by omega)
        have hN1 := BI_le n1' n2' ha x1
        rw [y1, sb, rr_54_0, sb, ga_55 (by omega), sb, (y2.2.2 i hiN.1).1, hiN.2, Moves_targetOf (m := 50) (by decide) n2' (by omega), sb]
        have x2 : BI f1 f2 a i (addL (addL N L (f1 (L i))).1 (addL N L (f1 (L i))).2 (f2 (L i))).1 (addL (addL N L (f1 (L i))).1 (addL N L (f1 (L i))).2 (f2 (L i))).2 := addL_BI x1 (fun G e => ⟨b2 _ G e, hr.st (Or.inr e)⟩)
        obtain ⟨B2, J2, w1, w2, w3⟩ := Loops_add (sw := sw) y2 (f2 (L i)) (fun G e => b2 _ G e) (BI_le n1' n2' ha x2)
        rw [w1, sb, add1]
        have hi2 := addL_old (L := (addL N L (f1 (L i))).2) (x := f2 (L i)) hiN.1
        refine ih (i + 1) g B2 J2 _ _ (by omega) (by omega) (e31.tr w3) w2 ⟨hi2.1, x2.2.1, x2.2.2.1, x2.2.2.2.1, fun q hq G e => ?_⟩
        by_cases d : q = i
        · subst d
          rw [hi2.2, hiN.2] at e
          rcases e with e | e
          · obtain ⟨j, z1, z2⟩ := addL_new (N := N) (L := L) e
            have := addL_old (L := (addL N L (f1 (L q))).2) (x := f2 (L q)) z1
            exact ⟨j, this.1, this.2.trans z2⟩
          · exact addL_new e
        · exact x2.2.2.2.2 q (by omega) G e
  unfold f_Loops_reachFrom
  have h0 : LoopsIs A (up2 I 54 1 0) 0 (fun _ => 0) := ⟨up2_s _ _ _ _, by omega, fun k hk => by omega⟩
  obtain ⟨B, J, z1, z2, z3⟩ := Loops_add (sw := sw) h0 (some a) (fun G e => by cases e; exact haB) (by simp [addL, mem, fnd])
  rw [kk_54, ss_54_1, sb, ← o2i_s, z1, sb]
  have q : addL 0 (fun _ => 0) (some a) = (1, fun k => if k = 0 then a else 0) := by simp [addL, mem, fnd]
  rw [q] at z2
  dsimp only at z2
  exact key 25 0 FU B J 1 _ (by omega) (by rw [FU_eq]; omega) ⟨z3.1, fun x y hx => (z3.2 x y hx).trans (up2_n hx)⟩ z2 ⟨by omega, fun x y _ _ => by omega, fun k hk => (by rw [show k = 0 by omega]; exact ⟨haB, Reach.rf⟩), ⟨0, by omega, rfl⟩, fun k hk => by omega⟩
def RoundsIs (A : Nat → Nat → Int32) (m : Nat) (rd : Nat → Bool) (n : Nat) (st : Nat → Nat) : Prop := ∀ k, k < n → A (m + 3) k = if rd (st k) = true then 1 else 0
/-- only the list of a search and the marks of the moves m were changed -/
def LRF (m : Nat) (A I A' I' : Nat → Nat → Int32) : Prop := (∀ a, a ≠ 55 → a ≠ m + 3 → A' a = A a) ∧ ∀ a b, a ≠ 54 → I' a b = I a b
theorem LRF.moves {A I B J : Nat → Nat → Int32} {m' : Nat} (h : LRF m' A I B J) (hm' : isM m' = true) {m n : Nat} {f : Nat → Option Nat} {st : Nat → Nat} (hm : isM m = true) (g : MovesIs A I m f n st) : MovesIs B J m f n st := by
  refine g.kept (h.2 m 3 ?_) (h.1 _ ?_ ?_) (h.1 _ ?_ ?_) <;> (rcases isM_cases hm with rfl | rfl <;> rcases isM_cases hm' with rfl | rfl <;> decide)
theorem Loops_markThose (g1 : MovesIs A I 40 f1 n1 st1) (g2 : MovesIs A I 50 f2 n2 st2) {m n : Nat} {f : Nat → Option Nat} {st : Nat → Nat} (hm : isM m = true) (hf : f = f1 ∨ f = f2) (g : MovesIs A I m f n st) : ∃ A' I', f_Loops_markThose (Wd A I sw) 54 m 40 50 = some (Wd A' I' sw) ∧ RoundsIs A' m (rnd f f1 f2) n st ∧ LRF m A I A' I' := by
  have hn := g.2.1
  have key : ∀ (k i q : Nat) (B J : Nat → Nat → Int32), i + k = n → k < q → LRF m A I B J → (∀ j, j < i → B (m + 3) j = if rnd f f1 f2 (st j) = true then 1 else 0) → ∃ A' I', f_Loops_markThose_3 54 m 40 50 q (nI i) (Wd B J sw) = some (Wd A' I' sw) ∧ RoundsIs A' m (rnd f f1 f2) n st ∧ LRF m A I A' I' := by
    intro k
    induction k with
    | zero =>
      intro i q B J e1 e2 e3 e4
      obtain ⟨q, rfl⟩ : ∃ x, q = x + 1 := ⟨q - 1, by omega⟩
      have hi : i = n := by omega
      subst hi
      refine ⟨B, J, ?_, e4, e3⟩
      rw [f_Loops_markThose_3, Moves_size hm (e3.moves hm hm g), sb, if_pos (Int32.le_refl _)]
    | succ k ih =>
      intro i q B J e1 e2 e3 e4
      obtain ⟨q, rfl⟩ : ∃ x, q = x + 1 := ⟨q - 1, by omega⟩
      have gB := e3.moves hm hm g
      have hne : f (st i) ≠ none := (gB.2.2.2.2.1 _).mpr ⟨i, by omega, rfl⟩
      obtain ⟨a, ea⟩ : ∃ a, f (st i) = some a := by
        cases e : f (st i) with
        | none => exact absurd e hne
        | some a => exact ⟨a, rfl⟩
      have ha : (∃ F, f1 F = some a) ∨ ∃ F, f2 F = some a := by
        rcases hf with rfl | rfl
        · exact Or.inl ⟨_, ea⟩
        · exact Or.inr ⟨_, ea⟩
      obtain ⟨B1, J1, N, L, z1, z2, z3, z4⟩ := Loops_reachFrom (sw := sw) (e3.moves hm (m := 40) (by decide) g1) (e3.moves hm (m := 50) (by decide) g2) ha
      have gB1 := z3.moves hm gB
      have hst := (gB.2.2.1 i (by omega)).1
      have hmk : f_Moves_markRound (Wd B1 J1 sw) m (nI i) (if mem L N (st i) = true then 1 else 0) = some (Wd (up2 B1 (m + 3) i (if mem L N (st i) = true then 1 else 0)) J1 sw) := by
        unfold f_Moves_markRound
        rw [M_ck hm, if_neg (neg_lt0 (by omega)), M_n hm, sb, gB1.1, ifc (nI_leI (by omega) (by omega)), if_neg (by omega), M_r2 hm, sb, M_s2 hm (by omega), sb, sb]
        split
        · rw [nar_1]
        · rw [nar_0]
      rw [f_Loops_markThose_3, Moves_size hm gB, sb, ifc (nI_leI (by omega) (by omega)), if_neg (by omega), Moves_targetAt hm gB (by omega), sb, ea, o2i_s, z1, sb, Moves_startAt hm gB1 (by omega), sb, Loops_isReached z2 (by omega), sb, hmk, sb, add1]
      have hm55 : m + 3 ≠ 55 := by rcases isM_cases hm with rfl | rfl <;> decide
      refine ih (i + 1) q _ J1 (by omega) (by omega) ⟨fun x x1 x2 => ?_, fun x y hx => (z3.2 x y hx).trans (e3.2 x y hx)⟩ (fun j hj => ?_)
      · rw [up2_fn x2, z3.1 x x1]
        exact e3.1 x x1 x2
      · rw [up2_at]
        by_cases c : j = i
        · rw [if_pos c, c, z4]
          unfold rnd
          rw [ea]
        · rw [if_neg c, z3.1 _ hm55]
          exact e4 j (by omega)
  unfold f_Loops_markThose
  rw [kk_54]
  exact key n 0 FU A I (by omega) (by rw [FU_eq]; omega) ⟨fun _ _ _ => rfl, fun _ _ _ => rfl⟩ (fun j hj => by omega)
theorem Loops_mark (g1 : MovesIs A I 40 f1 n1 st1) (g2 : MovesIs A I 50 f2 n2 st2) : ∃ A' I', f_Loops_mark (Wd A I sw) 54 40 50 = some (Wd A' I' sw) ∧ MovesIs A' I' 40 f1 n1 st1 ∧ MovesIs A' I' 50 f2 n2 st2 ∧ RoundsIs A' 40 (rnd f1 f1 f2) n1 st1 ∧ RoundsIs A' 50 (rnd f2 f1 f2) n2 st2 ∧ (∀ a, a ≠ 55 → a ≠ 43 → a ≠ 53 → A' a = A a) ∧ ∀ a b, a ≠ 54 → I' a b = I a b := by
  obtain ⟨B, J, a1, a2, a3⟩ := Loops_markThose (sw := sw) g1 g2 (m := 40) (by decide) (Or.inl rfl) g1
  have h1 := a3.moves (m := 40) (by decide) (by decide) g1
  have h2 := a3.moves (m := 50) (by decide) (by decide) g2
  obtain ⟨C, K, b1, b2, b3⟩ := Loops_markThose (sw := sw) h1 h2 (m := 50) (by decide) (Or.inr rfl) h2
  refine ⟨C, K, ?_, b3.moves (m := 40) (by decide) (by decide) h1, b3.moves (m := 50) (by decide) (by decide) h2, fun k hk => ?_, b2, fun a x y z => (b3.1 a x z).trans (a3.1 a x y), fun a b x => (b3.2 a b x).trans (a3.2 a b x)⟩
  · unfold f_Loops_mark
    rw [kk_54, a1, sb, b1, sb]
  · rw [b3.1 43 (by decide) (by decide)]
    exact a2 k hk
theorem Moves_goesRound {m n : Nat} {f : Nat → Option Nat} {st : Nat → Nat} (hm : isM m = true) (g : MovesIs A I m f n st) (hr : RoundsIs A m (rnd f f1 f2) n st) {F : Nat} (hF : F < 2 ^ 31) : f_Moves_goesRound (Wd A I sw) m (nI F) = some (if rnd f f1 f2 F = true then 1 else 0) := by
  have hn := g.2.1
  unfold f_Moves_goesRound
  rw [M_ck hm, Moves_placeOf hm g hF, sb]
  cases e : fnd (fun k => decide (st k = F)) 0 n with
  | none =>
    have : rnd f f1 f2 F = false := by unfold rnd; rw [(place_none g F).mp e]
    rw [o2i_n, if_pos rfl, sb, rz_0, this]
    rfl
  | some k =>
    obtain ⟨a1, a2⟩ := place_some g e
    rw [o2i_s, if_neg (nI_ne6 (by omega)), M_r2 hm, sb, M_g2 hm (by omega), sb, hr k a1, a2]
    cases rnd f f1 f2 F with
    | true => rw [if_pos rfl, if_neg (by decide), sb, rz_1]
    | false => rw [if_pos (show (if false = true then (1 : Int32) else (0 : Int32)) = 0 by decide), sb, rz_0]; rfl
end LC
