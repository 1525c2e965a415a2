-- ===== of three one =====
def j3 (a b c : Nat) : Nat := if b = c then b else if c = a then b else if b = a then c else min b c
def d3 (a b c : Nat) : Bool := !(decide (b = c)) && !(decide (b = a)) && !(decide (c = a))
theorem differ3 {a b c : Nat} (ha : a < 2 ^ 31) (hb : b < 2 ^ 31) (hc : c < 2 ^ 31) : f_Three_differ (nI a) (nI b) (nI c) = some (if d3 a b c = true then 1 else 0) := by
  unfold f_Three_differ d3
  rw [ifc (nI_eq hb hc), ifc (nI_eq hb ha), ifc (nI_eq hc ha)]
  by_cases c1 : b = c
  · rw [if_pos c1, rz_0]; simp [c1]
  · by_cases c2 : b = a
    · rw [if_neg c1, if_pos c2, rz_0]; simp [c2]
    · by_cases c3 : c = a
      · rw [if_neg c1, if_neg c2, if_pos c3, rz_0]; simp [c3]
      · rw [if_neg c1, if_neg c2, if_neg c3, rz_1]; simp [c1, c2, c3]
theorem join3 {a b c : Nat} (ha : a < 2 ^ 31) (hb : b < 2 ^ 31) (hc : c < 2 ^ 31) : f_Three_join (nI a) (nI b) (nI c) = some (nI (j3 a b c)) := by
  unfold f_Three_join j3
  rw [ifc (nI_eq hb hc), ifc (nI_eq hc ha), ifc (nI_eq hb ha), mnI_N hb hc]
  by_cases c1 : b = c
  · rw [if_pos c1, if_pos c1]
  · by_cases c2 : c = a
    · rw [if_neg c1, if_pos c2, if_neg c1, if_pos c2]
    · by_cases c3 : b = a
      · rw [if_neg c1, if_neg c2, if_pos c3, if_neg c1, if_neg c2, if_pos c3]
      · rw [if_neg c1, if_neg c2, if_neg c3, if_neg c1, if_neg c2, if_neg c3]
theorem j3_or (a b c : Nat) : j3 a b c = b ∨ j3 a b c = c := by
  unfold j3
  repeat' split
  all_goals omega
/-- the contents joined piece by piece, and whether two pieces clash -/
def jc : Nat → Nat → Nat → Nat → Nat
  | 0, _, _, _ => 1
  | n + 1, a, b, c => 10 * jc n (a / 10) (b / 10) (c / 10) + j3 (a % 10) (b % 10) (c % 10)
def dc : Nat → Nat → Nat → Nat → Bool
  | 0, _, _, _ => false
  | n + 1, a, b, c => d3 (a % 10) (b % 10) (c % 10) || dc n (a / 10) (b / 10) (c / 10)
theorem jc_in : ∀ n a b c, 10 ^ n ≤ jc n a b c ∧ jc n a b c < 2 * 10 ^ n := by
  intro n
  induction n with
  | zero => intro a b c; exact ⟨Nat.le_refl _, (by decide : 1 < 2 * 10 ^ 0)⟩
  | succ n ih =>
    intro a b c
    obtain ⟨h1, h2⟩ := ih (a / 10) (b / 10) (c / 10)
    have h3 : j3 (a % 10) (b % 10) (c % 10) < 10 := by
      rcases j3_or (a % 10) (b % 10) (c % 10) with e | e <;> rw [e] <;> omega
    rw [jc, Nat.pow_succ]
    omega
/-- the joined content and its clash -/
def sameN (a b c : Nat) : Bool := decide (nd a = nd b) && decide (nd a = nd c)
def cJ (a b c : Nat) : Nat := if d3 a b c = true ∧ sameN a b c = true then jc (nd a) a b c else j3 a b c
def cD (a b c : Nat) : Bool := d3 a b c && (!(sameN a b c) || dc (nd a) a b c)
theorem vC_in {k c : Nat} (h1 : 10 ^ k ≤ c) (h2 : c < 2 * 10 ^ k) (hk : k ≤ 6) : vC c = true := by
  unfold vC
  refine decide_eq_true ?_
  rcases (show k = 0 ∨ k = 1 ∨ k = 2 ∨ k = 3 ∨ k = 4 ∨ k = 5 ∨ k = 6 by omega) with rfl | rfl | rfl | rfl | rfl | rfl | rfl <;> omega
theorem cJ_v {a b c : Nat} (hb : vC b = true) (hc : vC c = true) : vC (cJ a b c) = true := by
  unfold cJ
  split
  · have h := jc_in (nd a) a b c
    exact vC_in h.1 h.2 (nd_le a)
  · rcases j3_or a b c with e | e <;> rw [e]
    · exact hb
    · exact hc
theorem dc_low : ∀ n a b c, a ≤ 1 → b ≤ 1 → c ≤ 1 → a = b → a = c → dc n a b c = false := by
  intro n
  induction n with
  | zero => intro a b c _ _ _ _ _; rfl
  | succ n ih =>
    intro a b c h1 h2 h3 h4 h5
    subst h4 h5
    rw [dc, ih _ _ _ (by omega) (by omega) (by omega) rfl rfl]
    simp [d3]
theorem dc_more : ∀ n k a b c, inC n a → inC n b → inC n c → dc (n + k) a b c = dc n a b c := by
  intro n
  induction n with
  | zero =>
    intro k a b c h1 h2 h3
    rw [inC_0 h1, inC_0 h2, inC_0 h3]
    exact dc_low _ _ _ _ (by decide) (by decide) (by decide) rfl rfl
  | succ n ih =>
    intro k a b c h1 h2 h3
    rw [show n + 1 + k = n + k + 1 by omega, dc, dc, ih k _ _ _ (inC_s h1).1 (inC_s h2).1 (inC_s h3).1]
-- the class
theorem sameCount {a b c : Nat} (ha : vC a = true) (hb : vC b = true) (hc : vC c = true) : f_Three_sameCount (nI a) (nI b) (nI c) = some (if sameN a b c = true then 1 else 0) := by
  have h1 := nd_le a
  have h2 := nd_le b
  have h3 := nd_le c
  unfold f_Three_sameCount sameN
  rw [countOf ha, sb, countOf hb, sb, ifc (nI_eq (by omega) (by omega)), countOf hc, sb, ifc (nI_eq (by omega) (by omega))]
  by_cases c1 : nd a = nd b
  · rw [if_pos c1]
    by_cases c2 : nd a = nd c
    · rw [if_pos c2, sb, rz_1]; simp [c1, ← c2]
    · rw [if_neg c2, sb, rz_0]; simp [c2]
  · rw [if_neg c1, sb, rz_0]; simp [c1]
theorem clash_36 : ∀ (k j f a b c : Nat), j + k = 6 → k < f → a < 2 ^ 31 → b < 2 ^ 31 → c < 2 ^ 31 → f_Three_contentsClash_36 f (nI a) (nI b) (nI c) (nI j) = some (if dc k a b c = true then 1 else 0) := by
  intro k
  induction k with
  | zero =>
    intro j f a b c e1 e2 _ _ _
    obtain ⟨f, rfl⟩ : ∃ g, f = g + 1 := ⟨f - 1, by omega⟩
    rw [f_Three_contentsClash_36, ifc (ge6 (by omega)), if_pos (by omega), rz_0]
    rfl
  | succ k ih =>
    intro j f a b c e1 e2 ha hb hc
    obtain ⟨f, rfl⟩ : ∃ g, f = g + 1 := ⟨f - 1, by omega⟩
    rw [f_Three_contentsClash_36, ifc (ge6 (by omega)), if_neg (by omega), rem10 ha, rem10 hb, rem10 hc, differ3 (by omega) (by omega) (by omega), sb, div10 ha, div10 hb, div10 hc, add1, dc]
    cases d3 (a % 10) (b % 10) (c % 10) with
    | true => rw [if_neg (show ¬ (if true = true then (1 : Int32) else (0 : Int32)) = 0 by decide), rz_1]; rfl
    | false =>
      rw [if_pos (show (if false = true then (1 : Int32) else (0 : Int32)) = 0 by decide), Bool.false_or]
      exact ih (j + 1) f _ _ _ (by omega) (by omega) (by omega) (by omega) (by omega)
theorem contentsClash {a b c : Nat} (ha : vC a = true) (hb : vC b = true) (hc : vC c = true) : f_Three_contentsClash (nI a) (nI b) (nI c) = some (if cD a b c = true then 1 else 0) := by
  have a1 := vC_lt ha
  have b1 := vC_lt hb
  have c1 := vC_lt hc
  have e18 : f_Three_contentsClash_18 (nI a) (nI b) (nI c) = some (if d3 a b c = true then 1 else 0) := by
    unfold f_Three_contentsClash_18
    rw [differ3 (by omega) (by omega) (by omega), sb]
    split
    · exact rz_1
    · exact rz_0
  unfold f_Three_contentsClash cD
  rw [differ3 (by omega) (by omega) (by omega), sb, e18, sameCount ha hb hc, sb]
  cases e1 : d3 a b c with
  | false => rw [if_pos (show (if false = true then (1 : Int32) else (0 : Int32)) = 0 by decide), Bool.false_and]
  | true =>
    rw [if_neg (show ¬ (if true = true then (1 : Int32) else (0 : Int32)) = 0 by decide), Bool.true_and]
    cases e2 : sameN a b c with
    | false => rw [if_pos (show (if false = true then (1 : Int32) else (0 : Int32)) = 0 by decide)]; rfl
    | true =>
      rw [if_neg (show ¬ (if true = true then (1 : Int32) else (0 : Int32)) = 0 by decide), Bool.not_true, Bool.false_or]
      have q := clash_36 6 0 FU a b c (by omega) (by rw [FU_eq]; omega) (by omega) (by omega) (by omega)
      unfold sameN at e2
      rw [Bool.and_eq_true] at e2
      have n1 := of_decide_eq_true e2.1
      have n2 := of_decide_eq_true e2.2
      have i1 := inC_nd ha
      have i2 := inC_nd hb
      have i3 := inC_nd hc
      rw [← n1] at i2
      rw [← n2] at i3
      have q2 := dc_more (nd a) (6 - nd a) a b c i1 i2 i3
      rw [show nd a + (6 - nd a) = 6 by have := nd_le a; omega] at q2
      rw [q2] at q
      exact q
theorem joinC_48 {n : Nat} : ∀ (r j f a b c x y : Nat), j + r = n → r < f → n ≤ 6 → a < 2 ^ 31 → b < 2 ^ 31 → c < 2 ^ 31 → f_Three_joinContents_48 (nI n) f (nI a) (nI b) (nI c) (nI x) (nI y) (nI j) = some (nI (x + y * jc r a b c)) := by
  intro r
  induction r with
  | zero =>
    intro j f a b c x y e1 e2 e3 _ _ _
    obtain ⟨f, rfl⟩ : ∃ g, f = g + 1 := ⟨f - 1, by omega⟩
    rw [f_Three_joinContents_48, ifc (nI_leI (by omega) (by omega)), if_pos (by omega), nI_add, jc, Nat.mul_one, Nat.add_comm]
  | succ r ih =>
    intro j f a b c x y e1 e2 e3 ha hb hc
    obtain ⟨f, rfl⟩ : ∃ g, f = g + 1 := ⟨f - 1, by omega⟩
    rw [f_Three_joinContents_48, ifc (nI_leI (by omega) (by omega)), if_neg (by omega), rem10 ha, rem10 hb, rem10 hc, join3 (by omega) (by omega) (by omega), sb, div10 ha, div10 hb, div10 hc, add1, pk_mul, nI_add, show nI y * (10 : Int32) = nI (y * 10) from pk_mul y 10, ih (j + 1) f _ _ _ _ _ (by omega) (by omega) e3 (by omega) (by omega) (by omega), jc]
    congr 2
    rw [Nat.mul_add, ← Nat.mul_assoc]
    omega
theorem joinContents {a b c : Nat} (ha : vC a = true) (hb : vC b = true) (hc : vC c = true) : f_Three_joinContents (nI a) (nI b) (nI c) = some (nI (cJ a b c)) := by
  have a1 := vC_lt ha
  have b1 := vC_lt hb
  have c1 := vC_lt hc
  have e18 : f_Three_joinContents_18 (nI a) (nI b) (nI c) = some (nI (j3 a b c)) := by
    unfold f_Three_joinContents_18
    rw [join3 (by omega) (by omega) (by omega), sb]
  unfold f_Three_joinContents cJ
  rw [differ3 (by omega) (by omega) (by omega), sb, e18, sameCount ha hb hc, sb, countOf ha, sb]
  cases e1 : d3 a b c with
  | false => rw [if_pos (show (if false = true then (1 : Int32) else (0 : Int32)) = 0 by decide), if_neg (fun q => by cases q.1)]
  | true =>
    rw [if_neg (show ¬ (if true = true then (1 : Int32) else (0 : Int32)) = 0 by decide)]
    cases e2 : sameN a b c with
    | false => rw [if_pos (show (if false = true then (1 : Int32) else (0 : Int32)) = 0 by decide), if_neg (fun q => by cases q.2)]
    | true =>
      have q := joinC_48 (n := nd a) (nd a) 0 FU a b c 0 1 (by omega) (by have := nd_le a; rw [FU_eq]; omega) (nd_le a) (by omega) (by omega) (by omega)
      rw [Nat.zero_add, Nat.one_mul] at q
      rw [if_neg (show ¬ (if true = true then (1 : Int32) else (0 : Int32)) = 0 by decide), if_pos ⟨rfl, rfl⟩]
      exact q
-- the reference
theorem or16 : ∀ a, a < 16 → ∀ b, b < 16 → nI a ||| nI b = nI (a ||| b) ∧ a ||| b < 16 := by decide
def cz (z : Nat) (b : Bool) (w : Nat) : Nat := if b = true then z ||| w else z
theorem cz_lt {z w : Nat} (b : Bool) (hz : z < 16) (hw : w < 16) : cz z b w < 16 := by
  unfold cz
  split
  · exact (or16 z hz w hw).2
  · exact hz
theorem cz_cz (z : Nat) (b d : Bool) (w : Nat) : cz (cz z b w) d w = cz z (b || d) w := by
  unfold cz
  cases b <;> cases d <;> simp [Nat.or_assoc]
/-- only the reference's causes may have changed -/
def ZI (I I' : Nat → Nat → Int32) : Prop := ∀ a b, (a ≠ 64 ∨ b ≠ 21) → I' a b = I a b
theorem ZI.rf {I : Nat → Nat → Int32} : ZI I I := fun _ _ _ => rfl
theorem ZI.tr {I J K : Nat → Nat → Int32} (h : ZI I J) (g : ZI J K) : ZI I K := fun a b e => (g a b e).trans (h a b e)
section OO
variable {A I : Nat → Nat → Int32} {sw : Bool} {z : Nat}
theorem Mo_oneOf {a b c w : Nat} (hz : I 64 21 = nI z) (hz16 : z < 16) (hw : w < 16) (ha : a < 2 ^ 31) (hb : b < 2 ^ 31) (hc : c < 2 ^ 31) : ∃ I', f_Mo_oneOf (Wd A I sw) 64 (nI a) (nI b) (nI c) (nI w) = some (nI (j3 a b c), Wd A I' sw) ∧ I' 64 21 = nI (cz z (d3 a b c) w) ∧ ZI I I' := by
  unfold f_Mo_oneOf j3 d3 cz
  rw [kk_64, ifc (nI_eq hb hc), ifc (nI_eq hc ha), ifc (nI_eq hb ha)]
  by_cases c1 : b = c
  · rw [if_pos c1, if_pos c1]; exact ⟨I, rfl, by simp [c1, hz], ZI.rf⟩
  · by_cases c2 : c = a
    · rw [if_neg c1, if_pos c2, if_neg c1, if_pos c2]; exact ⟨I, rfl, by simp [c2, hz], ZI.rf⟩
    · by_cases c3 : b = a
      · rw [if_neg c1, if_neg c2, if_pos c3, if_neg c1, if_neg c2, if_pos c3]; exact ⟨I, rfl, by simp [c3, hz], ZI.rf⟩
      · rw [if_neg c1, if_neg c2, if_neg c3, if_neg c1, if_neg c2, if_neg c3, gg_64_21, sb, ss_64_21, sb, Mo_less hb hc, sb, hz, (or16 z hz16 w hw).1]
        refine ⟨_, rfl, ?_, fun x y h => ?_⟩
        · rw [up2_s]; simp [c1, c2, c3]
        · by_cases q : x = 64
          · exact up2_m (by omega)
          · exact up2_n q
theorem dc_top : ∀ r a b c, dc (r + 1) a b c = (dc r a b c || d3 (a / 10 ^ r % 10) (b / 10 ^ r % 10) (c / 10 ^ r % 10)) := by
  intro r
  induction r with
  | zero => intro a b c; simp [dc]
  | succ r ih =>
    intro a b c
    rw [dc, ih (a / 10) (b / 10) (c / 10), dc, Nat.div_div_eq_div_mul, Nat.div_div_eq_div_mul, Nat.div_div_eq_div_mul, show 10 * 10 ^ r = 10 ^ (r + 1) by rw [Nat.pow_succ, Nat.mul_comm], Bool.or_assoc]
theorem contentOf_92 {n a b c : Nat} (hn : n ≤ 6) (ha : a < 2 ^ 31) (hb : b < 2 ^ 31) (hc : c < 2 ^ 31) : ∀ (r j f : Nat) (I : Nat → Nat → Int32) (z : Nat) (y : Int32), j + r = n → r < f → (0 < r → y = nI (10 ^ (r - 1))) → I 64 21 = nI z → z < 16 → ∃ I', f_Mo_contentOf_92 64 (nI a) (nI b) (nI c) (nI n) f (nI (jc j (a / 10 ^ r) (b / 10 ^ r) (c / 10 ^ r))) y (nI j) (Wd A I sw) = some (nI (jc n a b c), Wd A I' sw) ∧ I' 64 21 = nI (cz z (dc r a b c) 4) ∧ ZI I I' := by
  intro r
  induction r with
  | zero =>
    intro j f I z y e1 e2 e3 e4 e5
    obtain ⟨f, rfl⟩ : ∃ g, f = g + 1 := ⟨f - 1, by omega⟩
    have hj : j = n := by omega
    subst hj
    refine ⟨I, ?_, e4, ZI.rf⟩
    rw [f_Mo_contentOf_92, if_pos (Int32.le_refl _), Nat.pow_zero, Nat.div_one, Nat.div_one, Nat.div_one]
  | succ r ih =>
    intro j f I z y e1 e2 e3 e4 e5
    obtain ⟨f, rfl⟩ : ∃ g, f = g + 1 := ⟨f - 1, by omega⟩
    have hy : y = nI (10 ^ r) := e3 (by omega)
    have hp : 0 < 10 ^ r := Nat.pow_pos (by decide)
    have hp2 : 10 ^ r ≤ 10 ^ 6 := Nat.pow_le_pow_right (by decide) (by omega)
    have q1 : a / 10 ^ r ≤ a := Nat.div_le_self _ _
    have q2 : b / 10 ^ r ≤ b := Nat.div_le_self _ _
    have q3 : c / 10 ^ r ≤ c := Nat.div_le_self _ _
    obtain ⟨I1, z1, z2, z3⟩ := Mo_oneOf (A := A) (sw := sw) e4 e5 (w := 4) (by decide) (a := a / 10 ^ r % 10) (b := b / 10 ^ r % 10) (c := c / 10 ^ r % 10) (by omega) (by omega) (by omega)
    have z1' : f_Mo_oneOf (Wd A I sw) 64 (nI (a / 10 ^ r % 10)) (nI (b / 10 ^ r % 10)) (nI (c / 10 ^ r % 10)) (4 : Int32) = _ := z1
    have ej : (10 : Int32) * nI (jc j (a / 10 ^ (r + 1)) (b / 10 ^ (r + 1)) (c / 10 ^ (r + 1))) + nI (j3 (a / 10 ^ r % 10) (b / 10 ^ r % 10) (c / 10 ^ r % 10)) = nI (jc (j + 1) (a / 10 ^ r) (b / 10 ^ r) (c / 10 ^ r)) := by
      rw [show (10 : Int32) * nI (jc j (a / 10 ^ (r + 1)) (b / 10 ^ (r + 1)) (c / 10 ^ (r + 1))) = nI (10 * jc j (a / 10 ^ (r + 1)) (b / 10 ^ (r + 1)) (c / 10 ^ (r + 1))) from pk_mul 10 _, nI_add, jc, Nat.div_div_eq_div_mul, Nat.div_div_eq_div_mul, Nat.div_div_eq_div_mul, ← Nat.pow_succ]
    rw [f_Mo_contentOf_92, ifc (nI_leI (by omega) (by omega)), if_neg (by omega), hy, div_most ha hp (by omega), sb, div_most hb hp (by omega), sb, div_most hc hp (by omega), sb, rem10 (by omega), rem10 (by omega), rem10 (by omega), z1', sb]
    dsimp only
    rw [ej, add1, div10 (by omega)]
    obtain ⟨I2, w1, w2, w3⟩ := ih (j + 1) f I1 _ (nI (10 ^ r / 10)) (by omega) (by omega) (fun h => by
      obtain ⟨s, rfl⟩ : ∃ s, r = s + 1 := ⟨r - 1, by omega⟩
      rw [Nat.pow_succ, Nat.mul_div_cancel _ (by decide)]
      rfl) z2 (cz_lt _ e5 (by decide))
    refine ⟨I2, w1, ?_, z3.tr w3⟩
    rw [w2, cz_cz, dc_top, Bool.or_comm]
theorem Mo_contentOf {a b c : Nat} (hz : I 64 21 = nI z) (hz16 : z < 16) (ha : vC a = true) (hb : vC b = true) (hc : vC c = true) : ∃ I', f_Mo_contentOf (Wd A I sw) 64 (nI a) (nI b) (nI c) = some (nI (cJ a b c), Wd A I' sw) ∧ I' 64 21 = nI (cz z (cD a b c) 4) ∧ ZI I I' := by
  have a1 := vC_lt ha
  have b1 := vC_lt hb
  have c1 := vC_lt hc
  have n1 := nd_le a
  have n2 := nd_le b
  have n3 := nd_le c
  obtain ⟨I1, z1, z2, z3⟩ := Mo_oneOf (A := A) (sw := sw) hz hz16 (w := 4) (by decide) (a := a) (b := b) (c := c) (by omega) (by omega) (by omega)
  have e51 : f_Mo_contentOf_51 (Wd A I sw) 64 (nI a) (nI b) (nI c) = some (nI (j3 a b c), Wd A I1 sw) := by
    unfold f_Mo_contentOf_51
    have z1' : f_Mo_oneOf (Wd A I sw) 64 (nI a) (nI b) (nI c) (4 : Int32) = _ := z1
    rw [z1', sb]
  have ed : (if nI b = nI c then (1 : Int32) else (if nI b = nI a then (1 : Int32) else (if nI c = nI a then (1 : Int32) else (0 : Int32)))) = if d3 a b c = true then 0 else 1 := by
    unfold d3
    rw [ifc (nI_eq (by omega) (by omega)), ifc (nI_eq (by omega) (by omega)), ifc (nI_eq (by omega) (by omega))]
    by_cases c1 : b = c
    · simp [c1]
    · by_cases c2 : b = a
      · simp [c1, c2]
      · by_cases c3 : c = a
        · simp [c2, c3]
        · simp [c1, c2, c3]
  have k69 : ∀ (k j f : Nat), 1 ≤ j → (j + k = nd a ∨ (nd a = 0 ∧ j = 1 ∧ k = 0)) → k < f → ∃ I', f_Mo_contentOf_69 (Wd A I sw) 64 (nI a) (nI b) (nI c) (nI (nd a)) (1 : Int32) f (nI (10 ^ (j - 1))) (nI j) = some (nI (jc (nd a) a b c), Wd A I' sw) ∧ I' 64 21 = nI (cz z (dc (nd a) a b c) 4) ∧ ZI I I' := by
    intro k
    induction k with
    | zero =>
      intro j f hj h1 h2
      obtain ⟨f, rfl⟩ : ∃ g, f = g + 1 := ⟨f - 1, by omega⟩
      obtain ⟨I2, w1, w2, w3⟩ := contentOf_92 (A := A) (sw := sw) n1 (show a < 2 ^ 31 by omega) (show b < 2 ^ 31 by omega) (show c < 2 ^ 31 by omega) (nd a) 0 FU I z (nI (10 ^ (j - 1))) (by omega) (by rw [FU_eq]; omega) (fun h => by rw [show j = nd a by omega]) hz hz16
      refine ⟨I2, ?_, w2, w3⟩
      rw [f_Mo_contentOf_69, ifc (nI_leI (by omega) (by omega)), if_pos (by omega)]
      exact w1
    | succ k ih =>
      intro j f hj h1 h2
      obtain ⟨f, rfl⟩ : ∃ g, f = g + 1 := ⟨f - 1, by omega⟩
      have := ih (j + 1) f (by omega) (by omega) (by omega)
      rw [f_Mo_contentOf_69, ifc (nI_leI (by omega) (by omega)), if_neg (by omega), add1, show nI (10 ^ (j - 1)) * (10 : Int32) = nI (10 ^ (j - 1) * 10) from pk_mul _ 10, ← Nat.pow_succ, show (j - 1).succ = j + 1 - 1 by omega]
      exact this
  unfold f_Mo_contentOf cJ cD
  rw [kk_64, Mo_piecesIn ha, sb, ed, Mo_piecesIn hb, sb, ifc (nI_eq (by omega) (by omega)), Mo_piecesIn hc, sb, ifc (nI_eq (by omega) (by omega)), e51]
  cases e1 : d3 a b c with
  | false =>
    rw [if_neg (show ¬ (if false = true then (0 : Int32) else (1 : Int32)) = 0 by decide), if_neg (fun q => by cases q.1), Bool.false_and]
    exact ⟨I1, rfl, by rw [z2, e1], z3⟩
  | true =>
    rw [if_pos (show (if true = true then (0 : Int32) else (1 : Int32)) = 0 by decide), Bool.true_and]
    unfold sameN
    by_cases m1 : nd b = nd a
    · rw [if_pos m1]
      by_cases m2 : nd c = nd a
      · have es : (decide (nd a = nd b) && decide (nd a = nd c)) = true := by simp [m1, m2]
        rw [if_pos m2, es, if_pos ⟨rfl, rfl⟩, Bool.not_true, Bool.false_or]
        by_cases n0 : nd a = 0
        · exact k69 0 1 FU (by omega) (Or.inr ⟨n0, rfl, rfl⟩) (by rw [FU_eq]; omega)
        · exact k69 (nd a - 1) 1 FU (by omega) (Or.inl (by omega)) (by rw [FU_eq]; omega)
      · have es : (decide (nd a = nd b) && decide (nd a = nd c)) = false := by simp [m1]; omega
        rw [if_neg m2, es, if_neg (fun q => by cases q.2), Bool.not_false, Bool.true_or]
        exact ⟨I1, rfl, by rw [z2, e1], z3⟩
    · have es : (decide (nd a = nd b) && decide (nd a = nd c)) = false := by simp; omega
      rw [if_neg m1, es, if_neg (fun q => by cases q.2), Bool.not_false, Bool.true_or]
      exact ⟨I1, rfl, by rw [z2, e1], z3⟩
end OO
