-- ===== folders: letters, beginnings, what a folder becomes =====
def len (F : Nat) : Nat := if F = 0 then 0 else if F % 100 = 0 then 1 else if F % 10 = 0 then 2 else 3
def hd (F k : Nat) : Nat := F / 10 ^ (3 - k) * 10 ^ (3 - k)
def jn (F k G : Nat) : Nat := if len G + len F ≤ 3 + k then G + (F - hd F k) * 10 ^ k / 10 ^ (len G) else F
/-- the class's way to it -/
def cjn (l1 l2 l3 t2 t7 : Int32) : Option Int32 :=
  (f_Letters_lengthOf t7).bind fun t8 =>
  if (if ((t8 + l2) - l3) ≤ (3 : Int32) then ((0 : Int32)) else ((1 : Int32))) = (0 : Int32) then (
    (f_Letters_shift (l1 - t2) l3 t8).bind fun t12 =>
    some (t7 + t12)
  ) else (
    some l1
  )
theorem len_C : ∀ F, F < 445 → vF F = true → f_Letters_lengthOf (nI F) = some (nI (len F)) := by decide +kernel
theorem len_M : ∀ F, F < 445 → vF F = true → f_Mo_lettersIn (nI F) = some (nI (len F)) := by decide +kernel
theorem hd_C : ∀ F, F < 445 → vF F = true → ∀ k, k < 4 → f_Letters_firstOf (nI F) (nI k) = some (nI (hd F k)) ∧ f_Mo_headOf (nI F) (nI k) = some (nI (hd F k)) ∧ vF (hd F k) = true := by decide +kernel
def tlF (F k p : Nat) : Nat := (F - hd F k) * 10 ^ k / 10 ^ p
/-- what may follow p letters -/
def tv (p T : Nat) : Bool := decide (T < 10 ^ (3 - p)) && vF (T + 111 / 10 ^ (3 - p) * 10 ^ (3 - p))
def shOk (F k p : Nat) : Bool := !(decide (k ≤ len F)) || !(decide (p + len F ≤ 3 + k)) || (decide (f_Letters_shift (nI F - nI (hd F k)) (nI k) (nI p) = some (nI (tlF F k p))) && decide (f_Mo_joined_25 (nI F) FU (nI p) (nI 0) (nI k) = some (nI (tlF F k p))) && tv p (tlF F k p))
theorem shOk_all : ∀ F, F < 445 → vF F = true → ∀ k, k < 4 → ∀ p, p < 4 → shOk F k p = true := by decide +kernel
theorem tv_ok : ∀ G, G < 445 → vF G = true → ∀ T, T < 10 ^ (3 - len G) → tv (len G) T = true → vF (G + T) = true := by decide +kernel
theorem len_lt (F : Nat) : len F < 4 := by
  unfold len
  repeat' split
  all_goals omega
theorem shift_C {F k p : Nat} (hF : F ≤ 444) (vf : vF F = true) (hk : k ≤ len F) (hp : p < 4) (hs : p + len F ≤ 3 + k) : f_Letters_shift (nI F - nI (hd F k)) (nI k) (nI p) = some (nI (tlF F k p)) ∧ f_Mo_joined_25 (nI F) FU (nI p) (nI 0) (nI k) = some (nI (tlF F k p)) ∧ tv p (tlF F k p) = true := by
  have hl := len_lt F
  have h := shOk_all F (by omega) vf k (by omega) p hp
  unfold shOk at h
  rw [decide_eq_true hk, decide_eq_true hs, Bool.not_true, Bool.false_or, Bool.false_or, Bool.and_eq_true, Bool.and_eq_true] at h
  exact ⟨of_decide_eq_true h.1.1, of_decide_eq_true h.1.2, h.2⟩
theorem joined_add (l1 : Int32) : ∀ (n : Nat) (p acc k : Int32), f_Mo_joined_25 l1 n p acc k = (f_Mo_joined_25 l1 n p 0 k).map (fun z => acc + z) := by
  intro n
  induction n with
  | zero => intro p acc k; rfl
  | succ n ih =>
    intro p acc k
    rw [f_Mo_joined_25, f_Mo_joined_25]
    cases f_Mo_lettersIn l1 with
    | none => rfl
    | some t3 =>
      rw [sb, sb]
      by_cases c : t3 ≤ k
      · rw [if_pos c, if_pos c, Option.map_some, Int32.add_zero]
      · rw [if_neg c, if_neg c]
        cases f_Mo_worth p with
        | none => rfl
        | some t4 =>
          rw [sb, sb]
          cases f_Mo_letterOf l1 k with
          | none => rfl
          | some t5 =>
            rw [sb, sb, ih, ih (p + 1) (0 + t4 * t5) (k + 1), Option.map_map]
            congr 1
            funext z
            show acc + t4 * t5 + z = acc + (0 + t4 * t5 + z)
            rw [Int32.zero_add, Int32.add_assoc]
theorem nI_sub {a b : Nat} (h : b ≤ a) : nI a - nI b = nI (a - b) := by
  have : nI a = nI (a - b) + nI b := by rw [nI_add]; congr 1; omega
  rw [this]
  exact Int32.add_sub_cancel _ _
section JN
variable {F G k : Nat}
theorem jn_M (hF : F ≤ 444) (vf : vF F = true) (hG : G ≤ 444) (vg : vF G = true) (hk : k ≤ len F) : f_Mo_joined (nI G) (nI F) (nI k) = some (nI (jn F k G)) := by
  have l1 := len_lt F
  have l2 := len_lt G
  have es : nI (len G) + nI (len F) - nI k = nI (len G + len F - k) := by
    rw [nI_add]
    exact nI_sub (by omega)
  unfold f_Mo_joined jn
  rw [len_M G (by omega) vg, sb, len_M F (by omega) vf, sb, es, ifc (le3 (by omega))]
  by_cases c : len G + len F ≤ 3 + k
  · rw [if_pos (by omega), if_pos c, joined_add, show (0 : Int32) = nI 0 from rfl, (shift_C hF vf hk l2 c).2.1, Option.map_some, nI_add]
    rfl
  · rw [if_neg (by omega), if_neg c]
theorem jn_cls (hF : F ≤ 444) (vf : vF F = true) (hG : G ≤ 444) (vg : vF G = true) (hk : k ≤ len F) : cjn (nI F) (nI (len F)) (nI k) (nI (hd F k)) (nI G) = some (nI (jn F k G)) := by
  have l1 := len_lt F
  have l2 := len_lt G
  have es : nI (len G) + nI (len F) - nI k = nI (len G + len F - k) := by
    rw [nI_add]
    exact nI_sub (by omega)
  unfold cjn jn
  rw [len_C G (by omega) vg, sb, es, ifc (le3 (by omega))]
  by_cases c : len G + len F ≤ 3 + k
  · rw [if_pos (show len G + len F - k ≤ 3 by omega), if_pos rfl, if_pos c, (shift_C hF vf hk l2 c).1, sb, nI_add]
    rfl
  · rw [if_neg (show ¬ len G + len F - k ≤ 3 by omega), if_neg (by decide), if_neg c]
theorem jn_v (hF : F ≤ 444) (vf : vF F = true) (hG : G ≤ 444) (vg : vF G = true) (hk : k ≤ len F) : vF (jn F k G) = true := by
  unfold jn
  split
  · rename_i c
    have h := (shift_C hF vf hk (len_lt G) c).2.2
    refine tv_ok G (by omega) vg _ ?_ h
    unfold tv at h
    rw [Bool.and_eq_true] at h
    exact of_decide_eq_true h.1
  · exact vf
end JN
/-- the move of the first k letters, if it is one and goes not round -/
def hit (f : Nat → Option Nat) (rd : Nat → Bool) (F k : Nat) : Option Nat := match f (hd F k) with
  | some G => if rd (hd F k) = true then none else some (jn F k G)
  | none => none
def dstK (f : Nat → Option Nat) (rd : Nat → Bool) (F : Nat) : Nat → Nat
  | 0 => F
  | k + 1 => match hit f rd F k with
    | some x => x
    | none => dstK f rd F k
def dst (f : Nat → Option Nat) (rd : Nat → Bool) (F : Nat) : Nat := dstK f rd F (len F + 1)
theorem dst_v {f : Nat → Option Nat} {rd : Nat → Bool} {F : Nat} (hF : F ≤ 444) (vf : vF F = true) (hf : ∀ F G, f F = some G → G ≤ 444 ∧ vF G = true) : vF (dst f rd F) = true := by
  have key : ∀ k, k ≤ len F + 1 → vF (dstK f rd F k) = true := by
    intro k
    induction k with
    | zero => intro _; exact vf
    | succ k ih =>
      intro hk
      rw [dstK]
      split
      · rename_i x e
        unfold hit at e
        split at e
        · rename_i G eG
          split at e
          · cases e
          · cases e
            exact jn_v hF vf (hf _ G eG).1 (hf _ G eG).2 (by omega)
        · cases e
      · exact ih (by omega)
  exact key _ (Nat.le_refl _)
section DC
variable {A I : Nat → Nat → Int32} {sw : Bool} {m n : Nat} {f f1 f2 : Nat → Option Nat} {st : Nat → Nat}
theorem Moves_follow (hm : isM m = true) (g : MovesIs A I m f n st) (hr : RoundsIs A m (rnd f f1 f2) n st) (hv : ∀ F G, f F = some G → G ≤ 444 ∧ vF G = true) {F : Nat} (hF : F ≤ 444) (vf : vF F = true) : f_Moves_follow (Wd A I sw) m (nI F) = some (nI (dst f (rnd f f1 f2) F)) := by
  have hn := g.2.1
  have hlen := len_lt F
  have step : ∀ (k q : Nat), k ≤ len F → f_Moves_follow_7 (Wd A I sw) m (nI F) (nI (len F)) q (nI k + (-1 : Int32)) = some (nI (dstK f (rnd f f1 f2) F k)) → f_Moves_follow_7 (Wd A I sw) m (nI F) (nI (len F)) (q + 1) (nI k) = some (nI (dstK f (rnd f f1 f2) F (k + 1))) := by
    intro k q hk hz
    have hh := hd_C F (by omega) vf k (by omega)
    have hb := vF_le hh.2.2
    rw [f_Moves_follow_7, if_neg (neg_lt0 (by omega)), hh.1, sb, Moves_placeOf hm g (by omega), sb, dstK, hit]
    cases e : fnd (fun j => decide (st j = hd F k)) 0 n with
    | none =>
      rw [o2i_n, if_pos rfl, (place_none g _).mp e]
      exact hz
    | some j =>
      obtain ⟨a1, a2⟩ := place_some g e
      obtain ⟨G, eG⟩ : ∃ G, f (hd F k) = some G := by
        cases e2 : f (hd F k) with
        | none => exact absurd e2 ((g.2.2.2.2.1 _).mpr ⟨j, a1, a2⟩)
        | some G => exact ⟨G, rfl⟩
      have hG := hv _ G eG
      have hjn := jn_cls (k := k) hF vf hG.1 hG.2 hk
      unfold cjn at hjn
      rw [o2i_s, if_neg (nI_ne6 (by omega)), M_r2 hm, sb, M_g2 hm (by omega), sb, hr j a1, a2, eG]
      dsimp only
      cases er : rnd f f1 f2 (hd F k) with
      | true =>
        rw [if_neg (show ¬ (if true = true then (1 : Int32) else (0 : Int32)) = 0 by decide), if_pos rfl]
        exact hz
      | false =>
        rw [if_pos (show (if false = true then (1 : Int32) else (0 : Int32)) = 0 by decide), if_neg (by decide), M_r1 hm, sb, M_g1 hm (by omega), sb, (g.2.2.1 j a1).2.2, a2, eG, o2i_s]
        rw [len_C G (by have := hG.1; omega) hG.2, sb] at hjn ⊢
        rw [sb, M_g1 hm (by omega), sb, (g.2.2.1 j a1).2.2, a2, eG, o2i_s, hjn, sb]
  have key : ∀ (k q : Nat), k ≤ len F → k + 1 < q → f_Moves_follow_7 (Wd A I sw) m (nI F) (nI (len F)) q (nI k) = some (nI (dstK f (rnd f f1 f2) F (k + 1))) := by
    intro k
    induction k with
    | zero =>
      intro q hk hq
      obtain ⟨q, rfl⟩ : ∃ z, q = z + 2 := ⟨q - 2, by omega⟩
      refine step 0 (q + 1) hk ?_
      rw [f_Moves_follow_7, if_pos (by decide), dstK]
    | succ k ih =>
      intro q hk hq
      obtain ⟨q, rfl⟩ : ∃ z, q = z + 1 := ⟨q - 1, by omega⟩
      refine step (k + 1) q hk ?_
      rw [subm1 (by omega)]
      exact ih q (by omega) (by omega)
  unfold f_Moves_follow
  rw [M_ck hm, len_C F (by omega) vf, sb]
  exact key (len F) FU (Nat.le_refl _) (by rw [FU_eq]; omega)
theorem Mo_destOf {t : Nat} (ht : t < 3) (g1 : MMoves A 1 f1) (g2 : MMoves A 2 f2) (g : MMoves A t f) (b1 : ∀ F G, f1 F = some G → G ≤ 444) (b2 : ∀ F G, f2 F = some G → G ≤ 444) (hv : ∀ F G, f F = some G → G ≤ 444 ∧ vF G = true) {F : Nat} (hF : F ≤ 444) (vf : vF F = true) : ∃ A', f_Mo_destOf (Wd A I sw) 64 (nI t) (nI F) = some (nI (dst f (rnd f f1 f2) F), Wd A' I sw) ∧ M3F A A' := by
  have hlen := len_lt F
  have step : ∀ (k q : Nat) (B : Nat → Nat → Int32), k ≤ len F → M3F A B → (∀ B', M3F A B' → ∃ A', f_Mo_destOf_5 64 (nI t) (nI F) q (nI k + (-1 : Int32)) (Wd B' I sw) = some (nI (dstK f (rnd f f1 f2) F k), Wd A' I sw) ∧ M3F A A') → ∃ A', f_Mo_destOf_5 64 (nI t) (nI F) (q + 1) (nI k) (Wd B I sw) = some (nI (dstK f (rnd f f1 f2) F (k + 1)), Wd A' I sw) ∧ M3F A A' := by
    intro k q B hk e3 hz
    have hh := hd_C F (by omega) vf k (by omega)
    have hb := vF_le hh.2.2
    rw [f_Mo_destOf_5, if_neg (neg_lt0 (by omega)), hh.2.1, sb, rr_64_14, sb, mix5, ga_72 (by omega), sb, e3.moves g _ (by omega), dstK, hit]
    cases eG : f (hd F k) with
    | none =>
      rw [o2i_n, if_pos m6_lt0]
      exact hz B e3
    | some G =>
      have hG := hv _ G eG
      obtain ⟨B1, z1, z2⟩ := Mo_isLoop (I := I) (sw := sw) ht (e3.moves g1) (e3.moves g2) (e3.moves g) b1 b2 (F := hd F k) (by omega) hG.1 eG
      rw [o2i_s, if_neg (neg_lt0 (by omega)), z1, sb]
      dsimp only
      cases er : rnd f f1 f2 (hd F k) with
      | true =>
        rw [if_neg (show ¬ (if true = true then (1 : Int32) else (0 : Int32)) = 0 by decide), if_pos rfl]
        exact hz B1 (e3.tr z2)
      | false =>
        rw [if_pos (show (if false = true then (1 : Int32) else (0 : Int32)) = 0 by decide), if_neg (by decide), jn_M hF vf hG.1 hG.2 hk, sb]
        exact ⟨B1, rfl, e3.tr z2⟩
  have key : ∀ (k q : Nat) (B : Nat → Nat → Int32), k ≤ len F → k + 1 < q → M3F A B → ∃ A', f_Mo_destOf_5 64 (nI t) (nI F) q (nI k) (Wd B I sw) = some (nI (dstK f (rnd f f1 f2) F (k + 1)), Wd A' I sw) ∧ M3F A A' := by
    intro k
    induction k with
    | zero =>
      intro q B hk hq e3
      obtain ⟨q, rfl⟩ : ∃ z, q = z + 2 := ⟨q - 2, by omega⟩
      refine step 0 (q + 1) B hk e3 (fun B' e => ⟨B', ?_, e⟩)
      rw [f_Mo_destOf_5, if_pos (by decide), dstK]
    | succ k ih =>
      intro q B hk hq e3
      obtain ⟨q, rfl⟩ : ∃ z, q = z + 1 := ⟨q - 1, by omega⟩
      refine step (k + 1) q B hk e3 (fun B' e => ?_)
      rw [subm1 (by omega)]
      exact ih q B' (by omega) (by omega) e
  unfold f_Mo_destOf
  rw [kk_64, len_M F (by omega) vf, sb]
  exact key (len F) FU A (Nat.le_refl _) (by rw [FU_eq]; omega) (fun _ _ => rfl)
end DC
-- whatever number is asked: a folder or not
theorem isF_no {x : Int32} (h : x < 0 ∨ nI 445 ≤ x) : f_Letters_isFolder x = some 0 ∧ f_Mo_isFolder x = some 0 := by
  constructor
  · unfold f_Letters_isFolder
    by_cases c : x < 0
    · rw [if_pos c, rz_0]
    · rcases h with h | h
      · exact absurd h c
      · have : ¬ x ≤ (444 : Int32) := by
          intro q
          rw [Int32.le_iff_toInt_le] at h q
          rw [nI_toInt (by decide)] at h
          have : (444 : Int32).toInt = 444 := by decide
          omega
        rw [if_neg c, if_neg this, rz_0]
  · unfold f_Mo_isFolder
    rw [inL x 0 (nI 444) (a := 0) (b := 444) rfl rfl, if_neg (out_cond (n := 444) (by decide) h (by decide)), sb, if_pos rfl, rz_0]
theorem Cl_isFolder_all : ∀ F, F < 445 → f_Letters_isFolder (nI F) = some (if vF F = true then 1 else 0) := by decide +kernel
theorem isF (x : Int32) : (f_Letters_isFolder x = some 0 ∧ f_Mo_isFolder x = some 0) ∨ ∃ F, F ≤ 444 ∧ vF F = true ∧ x = nI F ∧ f_Letters_isFolder x = some 1 ∧ f_Mo_isFolder x = some 1 := by
  rcases pk_ix x (n := 445) (by decide) with h | h | ⟨j, h1, h2⟩
  · exact Or.inl (isF_no (Or.inl h))
  · exact Or.inl (isF_no (Or.inr h))
  · subst h2
    have a := Cl_isFolder_all j h1
    have b := Mo_isFolder_all j h1
    cases e : vF j with
    | true =>
      rw [e, if_pos rfl] at a b
      exact Or.inr ⟨j, by omega, e, rfl, a, b⟩
    | false =>
      rw [e, if_neg (by decide)] at a b
      exact Or.inl ⟨a, b⟩
