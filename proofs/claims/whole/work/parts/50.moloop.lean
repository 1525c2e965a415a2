-- ===== the reference's rounds =====
def MetIs (A : Nat → Nat → Int32) (S : Nat → Bool) : Prop := ∀ F, F < 445 → A 73 F = if S F = true then 1 else 0
def M3F (A A' : Nat → Nat → Int32) : Prop := ∀ a, a ≠ 73 → A' a = A a
theorem M3F.tr {A B C : Nat → Nat → Int32} (h : M3F A B) (g : M3F B C) : M3F A C := fun a ha => (g a ha).trans (h a ha)
theorem M3F.moves {A B : Nat → Nat → Int32} (h : M3F A B) {t : Nat} {f : Nat → Option Nat} (g : MMoves A t f) : MMoves B t f := by
  unfold MMoves
  rw [h 72 (by decide)]
  exact g
def stS (f : Nat → Option Nat) (F : Nat) (S : Nat → Bool) : Nat → Bool := match f F with
  | none => S
  | some G => if S F = true then (fun q => if q = G then true else S q) else S
theorem stS_cl {f : Nat → Option Nat} {F : Nat} {S : Nat → Bool} (h : stS f F S = S) (hF : S F = true) {G : Nat} (e : f F = some G) : S G = true := by
  unfold stS at h
  rw [e] at h
  dsimp only at h
  rw [if_pos hF] at h
  have := congrFun h G
  rw [if_pos rfl] at this
  exact this.symm
section ML
variable {A I : Nat → Nat → Int32} {sw : Bool} {f f1 f2 : Nat → Option Nat} {S : Nat → Bool}
theorem Mo_isStep {t : Nat} (ht : t < 3) (g : MMoves A t f) (h : MetIs A S) {F : Nat} (hF : F < 445) (hf : ∀ F G, f F = some G → G ≤ 444) : ∃ A' x, f_Mo_isStep (Wd A I sw) 64 (nI F) (nI t) = some (x, Wd A' I sw) ∧ MetIs A' (stS f F S) ∧ M3F A A' ∧ ((x = 0 ∧ stS f F S = S) ∨ (x = 1 ∧ cnt S 445 + 1 = cnt (stS f F S) 445)) := by
  unfold f_Mo_isStep
  rw [kk_64, rr_64_14, sb, mix5, ga_72 (by omega), sb, rr_64_15, sb, ga_73 hF, sb, g F hF, h F hF, sb, sb]
  have same : stS f F S = S → ∃ A' x, ((rz (0 : Int32)).bind fun t5 => some (t5, Wd A I sw)) = some (x, Wd A' I sw) ∧ MetIs A' (stS f F S) ∧ M3F A A' ∧ ((x = 0 ∧ stS f F S = S) ∨ (x = 1 ∧ cnt S 445 + 1 = cnt (stS f F S) 445)) := fun e => by
    rw [rz_0, sb]
    exact ⟨A, 0, rfl, by rw [e]; exact h, fun _ _ => rfl, Or.inl ⟨rfl, e⟩⟩
  cases eS : S F with
  | false =>
    rw [if_pos (show (if false = true then (1 : Int32) else (0 : Int32)) = 0 by decide)]
    exact same (by unfold stS; split; rfl; rw [if_neg (by rw [eS]; decide)])
  | true =>
    rw [if_neg (show ¬ (if true = true then (1 : Int32) else (0 : Int32)) = 0 by decide)]
    cases ef : f F with
    | none =>
      rw [o2i_n, if_pos m6_lt0]
      exact same (by unfold stS; rw [ef])
    | some G =>
      have hG := hf F G ef
      rw [o2i_s, if_neg (neg_lt0 (by omega)), ga_73 (by omega), sb, h G (by omega)]
      have hst : stS f F S = fun q => if q = G then true else S q := by unfold stS; rw [ef]; dsimp only; rw [if_pos eS]
      cases eG : S G with
      | true =>
        rw [if_neg (show ¬ (if true = true then (1 : Int32) else (0 : Int32)) = 0 by decide)]
        refine same ?_
        rw [hst]
        funext q
        split
        · rename_i c; rw [c, eG]
        · rfl
      | false =>
        rw [if_pos (show (if false = true then (1 : Int32) else (0 : Int32)) = 0 by decide), sa_73 (by omega), sb, rz_1, sb]
        refine ⟨_, 1, rfl, fun q hq => ?_, fun a ha => up2_fn ha, Or.inr ⟨rfl, ?_⟩⟩
        · rw [up2_at, hst]
          by_cases c : q = G
          · simp [c, nar_1]
          · simp [c, h q hq]
        · rw [hst]
          exact cnt_one 445 (k := G) (by omega) (by simp) eG (fun t ht => by simp [ht])
/-- every marked one is reached, the first is marked -/
def Snd (f1 f2 : Nat → Option Nat) (a : Nat) (S : Nat → Bool) : Prop := S a = true ∧ ∀ F, S F = true → F ≤ 444 ∧ Reach f1 f2 a F
theorem Snd.st {a F : Nat} (h : Snd f1 f2 a S) (hf : ∀ F G, f F = some G → G ≤ 444) (hc : f = f1 ∨ f = f2) : Snd f1 f2 a (stS f F S) := by
  unfold stS
  split
  · exact h
  · rename_i G e
    split
    · rename_i c
      have hr := (h.2 F c).2
      refine ⟨?_, fun q hq => ?_⟩
      · dsimp only
        split
        · rfl
        · exact h.1
      · dsimp only at hq
        split at hq
        · rename_i z
          rw [z]
          refine ⟨hf F G e, hr.st ?_⟩
          rcases hc with rfl | rfl
          · exact Or.inl e
          · exact Or.inr e
        · exact h.2 q hq
    · exact h
theorem isLoop_51 (g1 : MMoves A 1 f1) (g2 : MMoves A 2 f2) (b1 : ∀ F G, f1 F = some G → G ≤ 444) (b2 : ∀ F G, f2 F = some G → G ≤ 444) {a : Nat} {S0 : Nat → Bool} (l2 : Int32) (K : Int32 → Hp → Option (Int32 × Hp)) : ∀ (k F q : Nat) (B : Nat → Nat → Int32) (S : Nat → Bool) (x : Int32), F + k = 445 → k < q → M3F A B → MetIs B S → Snd f1 f2 a S → ((x = 0 ∧ S = S0 ∧ ∀ G, G < F → stS f1 G S = S ∧ stS f2 G S = S) ∨ (x = 1 ∧ cnt S0 445 < cnt S 445)) → ∃ A' S' y, f_Mo_isLoop_51 64 l2 K q x (nI F) (Wd B I sw) = K y (Wd A' I sw) ∧ M3F A A' ∧ MetIs A' S' ∧ Snd f1 f2 a S' ∧ ((y = 0 ∧ ∀ G, G < 445 → stS f1 G S' = S' ∧ stS f2 G S' = S') ∨ (y = 1 ∧ cnt S0 445 < cnt S' 445)) := by
  intro k
  induction k with
  | zero =>
    intro F q B S x e1 e2 e3 e4 e5 e6
    obtain ⟨q, rfl⟩ : ∃ z, q = z + 1 := ⟨q - 1, by omega⟩
    have hF : F = 445 := by omega
    subst hF
    refine ⟨B, S, x, by rw [f_Mo_isLoop_51, if_pos (by decide)], e3, e4, e5, ?_⟩
    rcases e6 with ⟨c1, c2, c3⟩ | c
    · exact Or.inl ⟨c1, c3⟩
    · exact Or.inr c
  | succ k ih =>
    intro F q B S x e1 e2 e3 e4 e5 e6
    obtain ⟨q, rfl⟩ : ∃ z, q = z + 1 := ⟨q - 1, by omega⟩
    obtain ⟨B1, x1, y1, y2, y3, y4⟩ := Mo_isStep (I := I) (sw := sw) (t := 1) (by decide) (e3.moves g1) e4 (F := F) (by omega) b1
    have e31 := e3.tr y3
    obtain ⟨B2, x2, z1, z2, z3, z4⟩ := Mo_isStep (I := I) (sw := sw) (t := 2) (by decide) (e31.moves g2) y2 (F := F) (by omega) b2
    have y1' : f_Mo_isStep (Wd B I sw) 64 (nI F) (1 : Int32) = some (x1, Wd B1 I sw) := y1
    have z1' : f_Mo_isStep (Wd B1 I sw) 64 (nI F) (2 : Int32) = some (x2, Wd B2 I sw) := z1
    rw [f_Mo_isLoop_51, ifc (ge445 (by omega)), if_neg (by omega), y1', sb]
    dsimp only
    rw [z1', sb, add1]
    dsimp only
    refine ih (F + 1) q B2 _ _ (by omega) (by omega) (e31.tr z3) z2 ((e5.st b1 (Or.inl rfl)).st b2 (Or.inr rfl)) ?_
    rcases e6 with ⟨c1, c2, c3⟩ | ⟨c1, c2⟩
    · rcases y4 with ⟨d1, d2⟩ | ⟨d1, d2⟩
      · rw [d2] at z4 ⊢
        rcases z4 with ⟨w1, w2⟩ | ⟨w1, w2⟩
        · rw [w2]
          refine Or.inl ⟨by rw [c1, d1, w1]; rfl, c2, fun G hG => ?_⟩
          by_cases z : G = F
          · rw [z]; exact ⟨d2, w2⟩
          · exact c3 G (by omega)
        · exact Or.inr ⟨by rw [c1, d1, w1]; rfl, by rw [← c2]; omega⟩
      · refine Or.inr ⟨by rw [c1, d1]; rfl, ?_⟩
        rcases z4 with ⟨w1, w2⟩ | ⟨w1, w2⟩
        · rw [w2, ← c2]; omega
        · rw [← c2]; omega
    · refine Or.inr ⟨by rw [c1]; rfl, ?_⟩
      have q1 : cnt S 445 ≤ cnt (stS f1 F S) 445 := by rcases y4 with ⟨d1, d2⟩ | ⟨d1, d2⟩; rw [d2]; omega; omega
      have q2 : cnt (stS f1 F S) 445 ≤ cnt (stS f2 F (stS f1 F S)) 445 := by rcases z4 with ⟨d1, d2⟩ | ⟨d1, d2⟩; rw [d2]; omega; omega
      omega
theorem Snd_end {a : Nat} (h : Snd f1 f2 a S) (hc : ∀ G, G < 445 → stS f1 G S = S ∧ stS f2 G S = S) (F : Nat) : S F = rdB f1 f2 a F := by
  have : S F = true ↔ rdB f1 f2 a F = true := by
    rw [rdB_iff]
    constructor
    · intro q; exact (h.2 F q).2
    · intro q
      refine q (fun G => S G = true) h.1 (fun F G hF e => ?_)
      have hF4 := (h.2 F hF).1
      rcases e with e | e
      · exact stS_cl (hc F (by omega)).1 hF e
      · exact stS_cl (hc F (by omega)).2 hF e
  cases e : S F with
  | true => exact (this.mp e).symm
  | false =>
    cases e2 : rdB f1 f2 a F with
    | false => rfl
    | true => rw [this.mpr e2] at e; cases e
theorem Mo_isLoop {t : Nat} (ht : t < 3) (g1 : MMoves A 1 f1) (g2 : MMoves A 2 f2) (g : MMoves A t f) (b1 : ∀ F G, f1 F = some G → G ≤ 444) (b2 : ∀ F G, f2 F = some G → G ≤ 444) {F a : Nat} (hF : F < 445) (ha : a ≤ 444) (e : f F = some a) : ∃ A', f_Mo_isLoop (Wd A I sw) 64 (nI t) (nI F) = some ((if rnd f f1 f2 F = true then 1 else 0), Wd A' I sw) ∧ M3F A A' := by
  have hrnd : rnd f f1 f2 F = rdB f1 f2 a F := by unfold rnd; rw [e]
  have pass : ∀ (q : Nat) (B : Nat → Nat → Int32) (S : Nat → Bool), M3F A B → MetIs B S → Snd f1 f2 a S → (∃ A', f_Mo_isLoop_42 64 (nI F) (q + 2) (1 : Int32) (Wd B I sw) = some ((if rnd f f1 f2 F = true then 1 else 0), Wd A' I sw) ∧ M3F A A') ∨ ∃ B1 S1, f_Mo_isLoop_42 64 (nI F) (q + 2) (1 : Int32) (Wd B I sw) = f_Mo_isLoop_42 64 (nI F) (q + 1) (1 : Int32) (Wd B1 I sw) ∧ M3F A B1 ∧ MetIs B1 S1 ∧ Snd f1 f2 a S1 ∧ cnt S 445 < cnt S1 445 := by
    intro q B S e3 e4 e5
    obtain ⟨B1, S1, y, z1, z2, z3, z4, z5⟩ := isLoop_51 (I := I) (sw := sw) (A := B) (a := a) (S0 := S) (e3.moves g1) (e3.moves g2) b1 b2 (nI F) (fun l3 h => f_Mo_isLoop_42 64 (nI F) (q + 1) l3 h) 445 0 FU B S 0 (by omega) (by rw [FU_eq]; omega) (fun _ _ => rfl) e4 e5 (Or.inl ⟨rfl, rfl, fun G hG => by omega⟩)
    rw [show nI 0 = (0 : Int32) from rfl] at z1
    rw [f_Mo_isLoop_42, if_neg (by decide), z1]
    rcases z5 with ⟨c1, c2⟩ | ⟨c1, c2⟩
    · refine Or.inl ⟨B1, ?_, e3.tr z2⟩
      rw [c1, f_Mo_isLoop_42, if_pos rfl, rr_64_15, sb, ga_73 hF, sb, z3 F hF, Snd_end z4 c2 F, hrnd]
      cases rdB f1 f2 a F with
      | true => rw [if_pos rfl, rz_1, sb]
      | false => rw [if_neg (by decide), rz_0, sb]
    · rw [c1]
      exact Or.inr ⟨B1, S1, rfl, e3.tr z2, z3, z4, c2⟩
  have k42 : ∀ (k q : Nat) (B : Nat → Nat → Int32) (S : Nat → Bool), 445 ≤ cnt S 445 + k → k + 1 < q → M3F A B → MetIs B S → Snd f1 f2 a S → ∃ A', f_Mo_isLoop_42 64 (nI F) q (1 : Int32) (Wd B I sw) = some ((if rnd f f1 f2 F = true then 1 else 0), Wd A' I sw) ∧ M3F A A' := by
    intro k
    induction k with
    | zero =>
      intro q B S e1 e2 e3 e4 e5
      obtain ⟨q, rfl⟩ : ∃ z, q = z + 2 := ⟨q - 2, by omega⟩
      rcases pass q B S e3 e4 e5 with h | ⟨B1, S1, z1, z2, z3, z4, z5⟩
      · exact h
      · have := cnt_le S1 445
        omega
    | succ k ih =>
      intro q B S e1 e2 e3 e4 e5
      obtain ⟨q, rfl⟩ : ∃ z, q = z + 2 := ⟨q - 2, by omega⟩
      rcases pass q B S e3 e4 e5 with h | ⟨B1, S1, z1, z2, z3, z4, z5⟩
      · exact h
      · rw [z1]
        exact ih (q + 1) B1 S1 (by omega) (by omega) z2 z3 z4
  have k2 : ∀ (k i q : Nat) (B : Nat → Nat → Int32), i + k = 445 → k < q → M3F A B → (∀ G, G < i → B 73 G = 0) → ∃ A', f_Mo_isLoop_2 64 (nI t) (nI F) q (nI i) (Wd B I sw) = some ((if rnd f f1 f2 F = true then 1 else 0), Wd A' I sw) ∧ M3F A A' := by
    intro k
    induction k with
    | zero =>
      intro i q B e1 e2 e3 e4
      obtain ⟨q, rfl⟩ : ∃ z, q = z + 1 := ⟨q - 1, by omega⟩
      have hi : i = 445 := by omega
      subst hi
      rw [f_Mo_isLoop_2, if_pos (by decide), rr_64_15, sb, rr_64_14, sb, mix5, ga_72 (by omega), sb, e3.moves g F hF, e, o2i_s, sa_73 (by omega), sb]
      refine k42 445 FU _ (fun q => decide (q = a)) (by omega) (by rw [FU_eq]; omega) (e3.tr (fun x hx => up2_fn hx)) (fun G hG => ?_) ⟨by simp, fun G hG => ?_⟩
      · rw [up2_at, nar_1]
        by_cases c : G = a
        · simp [c]
        · simp [c, e4 G hG]
      · have : G = a := of_decide_eq_true hG
        rw [this]
        exact ⟨ha, Reach.rf⟩
    | succ k ih =>
      intro i q B e1 e2 e3 e4
      obtain ⟨q, rfl⟩ : ∃ z, q = z + 1 := ⟨q - 1, by omega⟩
      rw [f_Mo_isLoop_2, ifc (ge445 (by omega)), if_neg (by omega), rr_64_15, sb, sa_73 (by omega), sb, add1, nar_0]
      refine ih (i + 1) q _ (by omega) (by omega) (e3.tr (fun x hx => up2_fn hx)) (fun G hG => ?_)
      rw [up2_at]
      by_cases c : G = i
      · rw [if_pos c]
      · rw [if_neg c]; exact e4 G (by omega)
  unfold f_Mo_isLoop
  rw [kk_64]
  exact k2 445 0 FU A (by omega) (by rw [FU_eq]; omega) (fun _ _ => rfl) (fun G hG => by omega)
end ML
