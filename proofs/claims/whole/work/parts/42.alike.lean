-- rows of kit/laws/BITS.to-paste (wb_, pf_)
theorem wb_tb (n : Nat) : (lN n).toBitVec = BitVec.ofNat 64 n := rfl
theorem wb_inj {a b : Int64} (h : a.toBitVec = b.toBitVec) : a = b := Int64.toBitVec_inj.mp h
theorem wb_lt2 {a b : Nat} (h : a < b) : 2 ^ a < 2 ^ b := Nat.pow_lt_pow_right (by decide) h
theorem wb_and {a b : Nat} (ha : a < 2 ^ 64) (hb : b < 2 ^ 64) : lN a &&& lN b = lN (a &&& b) := by
  apply wb_inj
  rw [Int64.toBitVec_and, wb_tb, wb_tb, wb_tb]
  apply BitVec.eq_of_toNat_eq
  rw [BitVec.toNat_and, BitVec.toNat_ofNat, BitVec.toNat_ofNat, BitVec.toNat_ofNat, Nat.mod_eq_of_lt ha, Nat.mod_eq_of_lt hb, Nat.mod_eq_of_lt (Nat.and_lt_two_pow _ hb)]
theorem wb_mask {n k : Nat} (hn : n < 2 ^ 64) (hk : k < 64) : lN n &&& lN (2 ^ k - 1) = lN (n % 2 ^ k) := by
  rw [wb_and hn (by have := wb_lt2 hk; omega), Nat.and_two_pow_sub_one_eq_mod]
theorem pf_lI {a : Nat} (h : a < 2 ^ 63) : (lN a).toInt = (a : Int) := lg_ofNat_toInt h
theorem pf_shr {a d : Nat} {D : Int64} (hD : (D.toBitVec.smod 64).toNat = d) (h : a < 2 ^ 62) : lN a >>> D = lN (a / 2 ^ d) := by
  have hd : a / 2 ^ d ≤ a := Nat.div_le_self _ _
  apply Int64.toInt_inj.mp
  have e : (lN a >>> D).toInt = (lN a).toInt >>> d := by
    rw [← hD]
    exact BitVec.toInt_sshiftRight ..
  rw [e, Int.shiftRight_eq_div_pow, pf_lI (by omega), pf_lI (by omega)]
  rfl
-- ===== contents: their pieces =====
def inC (k c : Nat) : Prop := k ≤ 6 ∧ 10 ^ k ≤ c ∧ c < 2 * 10 ^ k
def nd (c : Nat) : Nat := if c < 10 then 0 else if c < 100 then 1 else if c < 1000 then 2 else if c < 10000 then 3 else if c < 100000 then 4 else if c < 1000000 then 5 else 6
theorem inC_nd {c : Nat} (h : vC c = true) : inC (nd c) c := by
  have h1 := of_decide_eq_true h
  unfold nd
  rcases h1 with h1 | h1 | h1 | h1 | h1 | h1 | h1
  · rw [if_pos (by omega)]; exact ⟨by omega, by omega, by omega⟩
  · rw [if_neg (by omega), if_pos (by omega)]; exact ⟨by omega, by omega, by omega⟩
  · rw [if_neg (by omega), if_neg (by omega), if_pos (by omega)]; exact ⟨by omega, by omega, by omega⟩
  · rw [if_neg (by omega), if_neg (by omega), if_neg (by omega), if_pos (by omega)]; exact ⟨by omega, by omega, by omega⟩
  · rw [if_neg (by omega), if_neg (by omega), if_neg (by omega), if_neg (by omega), if_pos (by omega)]; exact ⟨by omega, by omega, by omega⟩
  · rw [if_neg (by omega), if_neg (by omega), if_neg (by omega), if_neg (by omega), if_neg (by omega), if_pos (by omega)]; exact ⟨by omega, by omega, by omega⟩
  · rw [if_neg (by omega), if_neg (by omega), if_neg (by omega), if_neg (by omega), if_neg (by omega), if_neg (by omega)]; exact ⟨by omega, by omega, by omega⟩
theorem inC_0 {c : Nat} (h : inC 0 c) : c = 1 := by
  have := h.2
  omega
theorem inC_s {k c : Nat} (h : inC (k + 1) c) : inC k (c / 10) ∧ 10 ≤ c := by
  obtain ⟨h1, h2, h3⟩ := h
  rw [Nat.pow_succ] at h2 h3
  have h4 : 0 < 10 ^ k := Nat.pow_pos (by decide)
  refine ⟨⟨by omega, by omega, by omega⟩, by omega⟩
theorem inC_lt {k c : Nat} (h : inC k c) : c < 2000001 := by
  have h4 : 10 ^ k ≤ 10 ^ 6 := Nat.pow_le_pow_right (by decide) h.1
  have := h.2.2
  omega
/-- how often a piece is among the last k figures -/
def tms (d : Nat) : Nat → Nat → Nat
  | 0, _ => 0
  | k + 1, c => (if c % 10 = d then 1 else 0) + tms d k (c / 10)
theorem tms_le (d : Nat) : ∀ k c, tms d k c ≤ k := by
  intro k
  induction k with
  | zero => intro c; exact Nat.le_refl _
  | succ k ih => intro c; rw [tms]; have := ih (c / 10); split <;> omega
def sumN (f : Nat → Nat) : Nat → Nat
  | 0 => 0
  | n + 1 => sumN f n + f n
theorem sumN_le {f : Nat → Nat} {b : Nat} : ∀ n, (∀ i, i < n → f i ≤ b) → sumN f n ≤ n * b := by
  intro n
  induction n with
  | zero => intro _; simp [sumN]
  | succ n ih =>
    intro h
    have h1 := ih (fun i hi => h i (by omega))
    have h2 := h n (by omega)
    rw [sumN, Nat.succ_mul]
    omega
/-- ALIKE -/
def both (c e : Nat) : Nat := sumN (fun d => min (tms d (nd c) c) (tms d (nd e) e)) 10
def alk (c e : Nat) : Nat := if max (nd c) (nd e) = 0 then 100 else 100 * both c e / max (nd c) (nd e)
theorem both_le (c e : Nat) : both c e ≤ 10 * nd c := by
  refine sumN_le 10 (fun d _ => ?_)
  have := tms_le d (nd c) c
  omega
theorem nd_le (c : Nat) : nd c ≤ 6 := by
  unfold nd
  repeat' split
  all_goals omega
theorem alk_lt (c e : Nat) : alk c e < 10000 := by
  unfold alk
  split
  · omega
  · have h1 := both_le c e
    have h2 := nd_le c
    have : 100 * both c e / max (nd c) (nd e) ≤ 100 * both c e := Nat.div_le_self _ _
    omega
-- the reference
theorem Mo_piecesIn_4 : ∀ (k c a f : Nat), inC k c → k < f → f_Mo_piecesIn_4 f (nI a) (nI c) = some (nI (a + k)) := by
  intro k
  induction k with
  | zero =>
    intro c a f h1 h2
    obtain ⟨g, rfl⟩ : ∃ g, f = g + 1 := ⟨f - 1, by omega⟩
    have hc := inC_0 h1
    subst hc
    rw [f_Mo_piecesIn_4, if_pos (by decide)]
    rfl
  | succ k ih =>
    intro c a f h1 h2
    obtain ⟨g, rfl⟩ : ∃ g, f = g + 1 := ⟨f - 1, by omega⟩
    have hl := inC_lt h1
    obtain ⟨h4, h5⟩ := inC_s h1
    rw [f_Mo_piecesIn_4, ifc (le1 (by omega)), if_neg (by omega), add1, div10 (by omega), ih (c / 10) (a + 1) g h4 (by omega)]
    congr 2
    omega
theorem Mo_piecesIn {c : Nat} (h : vC c = true) : f_Mo_piecesIn (nI c) = some (nI (nd c)) := by
  have h1 := inC_nd h
  have e := Mo_piecesIn_4 (nd c) c 0 FU h1 (by have := h1.1; rw [FU_eq]; omega)
  rw [Nat.zero_add] at e
  exact e
theorem Mo_timesIn_4 {d : Nat} (hd : d < 10) : ∀ (k c a f : Nat), inC k c → k < f → f_Mo_timesIn_4 (nI d) f (nI a) (nI c) = some (nI (a + tms d k c)) := by
  intro k
  induction k with
  | zero =>
    intro c a f h1 h2
    obtain ⟨g, rfl⟩ : ∃ g, f = g + 1 := ⟨f - 1, by omega⟩
    have hc := inC_0 h1
    subst hc
    rw [f_Mo_timesIn_4, if_pos (by decide)]
    rfl
  | succ k ih =>
    intro c a f h1 h2
    obtain ⟨g, rfl⟩ : ∃ g, f = g + 1 := ⟨f - 1, by omega⟩
    have hl := inC_lt h1
    obtain ⟨h4, h5⟩ := inC_s h1
    have e : nI a + (if irem (nI c) (10 : Int32) = nI d then (1 : Int32) else (0 : Int32)) = nI (a + (if c % 10 = d then 1 else 0)) := by
      rw [rem10 (by omega), ifc (nI_eq (by omega) (by omega))]
      split
      · exact add1 a
      · exact nI_add a 0
    rw [f_Mo_timesIn_4, ifc (le1 (by omega)), if_neg (by omega), e, div10 (by omega), ih (c / 10) _ g h4 (by omega), tms]
    congr 2
    omega
theorem Mo_timesIn {c d : Nat} (h : vC c = true) (hd : d < 10) : f_Mo_timesIn (nI c) (nI d) = some (nI (tms d (nd c) c)) := by
  have h1 := inC_nd h
  have e := Mo_timesIn_4 hd (nd c) c 0 FU h1 (by have := h1.1; rw [FU_eq]; omega)
  rw [Nat.zero_add] at e
  exact e
theorem Mo_less {a b : Nat} (ha : a < 2 ^ 31) (hb : b < 2 ^ 31) : f_Mo_less (nI a) (nI b) = some (nI (min a b)) := by
  unfold f_Mo_less
  rw [ifc (nI_leI hb ha)]
  by_cases c : b ≤ a
  · rw [if_pos c, Nat.min_eq_right c]
  · rw [if_neg c, Nat.min_eq_left (by omega)]
theorem Mo_greater {a b : Nat} (ha : a < 2 ^ 31) (hb : b < 2 ^ 31) : f_Mo_greater (nI a) (nI b) = some (nI (max a b)) := by
  unfold f_Mo_greater
  rw [ifc (nI_leI ha hb)]
  by_cases c : a ≤ b
  · rw [if_pos c, Nat.max_eq_right c]
  · rw [if_neg c, Nat.max_eq_left (by omega)]
theorem div_most {b m : Nat} (hb : b < 2 ^ 31) (hm : 0 < m) (hm2 : m < 2 ^ 31) : idv (nI b) (nI m) = some (nI (b / m)) := by
  unfold idv
  rw [if_neg (nI_ne0 hm hm2), pk_div hb hm hm2]
theorem Mo_alikeOf {c e : Nat} (hc : vC c = true) (he : vC e = true) : f_Mo_alikeOf (nI c) (nI e) = some (nI (alk c e)) := by
  have n1 := nd_le c
  have n2 := nd_le e
  have hb := both_le c e
  have key : ∀ (k j f : Nat), j + k = 10 → k < f → f_Mo_alikeOf_17 (nI c) (nI e) (nI (max (nd c) (nd e))) f (nI (sumN (fun d => min (tms d (nd c) c) (tms d (nd e) e)) j)) (nI j) = some (nI (alk c e)) := by
    intro k
    induction k with
    | zero =>
      intro j f h1 h2
      obtain ⟨g, rfl⟩ : ∃ g, f = g + 1 := ⟨f - 1, by omega⟩
      have hj : j = 10 := by omega
      subst hj
      rw [f_Mo_alikeOf_17, if_pos (by decide), ifc (eq0 (by omega))]
      unfold alk
      by_cases c0 : max (nd c) (nd e) = 0
      · rw [if_pos c0, if_pos c0, sb]
        rfl
      · have e1 : (100 : Int32) * nI (sumN (fun d => min (tms d (nd c) c) (tms d (nd e) e)) 10) = nI (100 * both c e) := pk_mul 100 _
        rw [if_neg c0, if_neg c0, e1, div_most (by omega) (by omega) (by omega), sb, sb]
    | succ k ih =>
      intro j f h1 h2
      obtain ⟨g, rfl⟩ : ∃ g, f = g + 1 := ⟨f - 1, by omega⟩
      have t1 := tms_le j (nd c) c
      have t2 := tms_le j (nd e) e
      rw [f_Mo_alikeOf_17, ifc (ge10 (by omega)), if_neg (by omega), Mo_timesIn hc (by omega), sb, Mo_timesIn he (by omega), sb, Mo_less (by omega) (by omega), sb, nI_add, add1]
      exact ih (j + 1) g (by omega) (by omega)
  unfold f_Mo_alikeOf
  rw [Mo_piecesIn hc, sb, Mo_piecesIn he, sb, Mo_greater (by omega) (by omega), sb]
  exact key 10 0 FU (by omega) (by rw [FU_eq]; omega)
-- the class
theorem countOf_z : ∀ (k j c a f : Nat), j + k = 6 → c < 10 → k < f → f_Pieces_countOf_6 f (nI a) (nI c) (nI j) = some (nI a) := by
  intro k
  induction k with
  | zero =>
    intro j c a f h1 h2 h3
    obtain ⟨g, rfl⟩ : ∃ g, f = g + 1 := ⟨f - 1, by omega⟩
    rw [f_Pieces_countOf_6, ifc (ge6 (by omega)), if_pos (by omega)]
  | succ k ih =>
    intro j c a f h1 h2 h3
    obtain ⟨g, rfl⟩ : ∃ g, f = g + 1 := ⟨f - 1, by omega⟩
    have e : nI a + (0 : Int32) = nI a := nI_add a 0
    rw [f_Pieces_countOf_6, ifc (ge6 (by omega)), if_neg (by omega), ifc (lt10 (by omega)), if_pos h2, e, div10 (by omega), add1]
    exact ih (j + 1) (c / 10) a g (by omega) (by omega) (by omega)
theorem countOf_6 : ∀ (k j c a f : Nat), j + k ≤ 6 → inC k c → 6 < f + j → f_Pieces_countOf_6 f (nI a) (nI c) (nI j) = some (nI (a + k)) := by
  intro k
  induction k with
  | zero =>
    intro j c a f h1 h2 h3
    have hc := inC_0 h2
    exact countOf_z (6 - j) j c a f (by omega) (by omega) (by omega)
  | succ k ih =>
    intro j c a f h1 h2 h3
    obtain ⟨g, rfl⟩ : ∃ g, f = g + 1 := ⟨f - 1, by omega⟩
    have hl := inC_lt h2
    obtain ⟨h4, h5⟩ := inC_s h2
    rw [f_Pieces_countOf_6, ifc (ge6 (by omega)), if_neg (by omega), ifc (lt10 (by omega)), if_neg (by omega), add1, div10 (by omega), add1, ih (j + 1) (c / 10) (a + 1) g (by omega) h4 (by omega)]
    congr 2
    omega
theorem countOf {c : Nat} (h : vC c = true) : f_Pieces_countOf (nI c) = some (nI (nd c)) := by
  have h1 := inC_nd h
  have e := countOf_6 (nd c) 0 c 0 FU (by have := h1.1; omega) h1 (by rw [FU_eq]; omega)
  rw [Nat.zero_add] at e
  exact e
def tly : Nat → Nat → Nat
  | 0, _ => 0
  | k + 1, c => 16 ^ (c % 10) + tly k (c / 10)
theorem shl16 : ∀ d, d < 10 → (1 : Int64) <<< (((4 : Int32) * nI d).toInt64 &&& 63) = lN (16 ^ d) := by decide +kernel
theorem shr16 : ∀ d, d < 10 → ((((4 : Int32) * nI d).toInt64 &&& 63).toBitVec.smod 64).toNat = 4 * d := by decide +kernel
theorem tally_z : ∀ (k j c a f : Nat), j + k = 6 → c < 10 → k < f → f_Pieces_tally_7 f (lN a) (nI c) (nI j) = some (lN a) := by
  intro k
  induction k with
  | zero =>
    intro j c a f h1 h2 h3
    obtain ⟨g, rfl⟩ : ∃ g, f = g + 1 := ⟨f - 1, by omega⟩
    rw [f_Pieces_tally_7, ifc (ge6 (by omega)), if_pos (by omega)]
  | succ k ih =>
    intro j c a f h1 h2 h3
    obtain ⟨g, rfl⟩ : ∃ g, f = g + 1 := ⟨f - 1, by omega⟩
    have e : lN a + (0 : Int64) = lN a := lN_add a 0
    rw [f_Pieces_tally_7, ifc (ge6 (by omega)), if_neg (by omega), ifc (lt10 (by omega)), if_pos h2, e, div10 (by omega), add1]
    exact ih (j + 1) (c / 10) a g (by omega) (by omega) (by omega)
theorem tally_7 : ∀ (k j c a f : Nat), j + k ≤ 6 → inC k c → 6 < f + j → f_Pieces_tally_7 f (lN a) (nI c) (nI j) = some (lN (a + tly k c)) := by
  intro k
  induction k with
  | zero =>
    intro j c a f h1 h2 h3
    have hc := inC_0 h2
    exact tally_z (6 - j) j c a f (by omega) (by omega) (by omega)
  | succ k ih =>
    intro j c a f h1 h2 h3
    obtain ⟨g, rfl⟩ : ∃ g, f = g + 1 := ⟨f - 1, by omega⟩
    have hl := inC_lt h2
    obtain ⟨h4, h5⟩ := inC_s h2
    rw [f_Pieces_tally_7, ifc (ge6 (by omega)), if_neg (by omega), ifc (lt10 (by omega)), if_neg (by omega), rem10 (by omega), shl16 (c % 10) (by omega), lN_add, div10 (by omega), add1, ih (j + 1) (c / 10) _ g (by omega) h4 (by omega), tly]
    congr 2
    omega
theorem tally {c : Nat} (h : vC c = true) : f_Pieces_tally (nI c) = some (lN (tly (nd c) c)) := by
  have h1 := inC_nd h
  have e := tally_7 (nd c) 0 c 0 FU (by have := h1.1; omega) h1 (by rw [FU_eq]; omega)
  rw [Nat.zero_add] at e
  exact e
theorem tly_sum : ∀ k c, k ≤ 6 → tly k c = tms 0 k c + 16 * tms 1 k c + 256 * tms 2 k c + 4096 * tms 3 k c + 65536 * tms 4 k c + 1048576 * tms 5 k c + 16777216 * tms 6 k c + 268435456 * tms 7 k c + 4294967296 * tms 8 k c + 68719476736 * tms 9 k c := by
  intro k
  induction k with
  | zero => intro c _; rfl
  | succ k ih =>
    intro c hk
    have h := ih (c / 10) (by omega)
    rw [tly, h]
    simp only [tms]
    have hd : c % 10 < 10 := Nat.mod_lt _ (by decide)
    generalize c % 10 = d at hd ⊢
    rcases (show d = 0 ∨ d = 1 ∨ d = 2 ∨ d = 3 ∨ d = 4 ∨ d = 5 ∨ d = 6 ∨ d = 7 ∨ d = 8 ∨ d = 9 by omega) with rfl | rfl | rfl | rfl | rfl | rfl | rfl | rfl | rfl | rfl <;> simp <;> omega
theorem tly_dig {k c d : Nat} (hk : k ≤ 6) (hd : d < 10) : tly k c / 16 ^ d % 16 = tms d k c := by
  rw [tly_sum k c hk]
  have h0 := tms_le 0 k c
  have h1 := tms_le 1 k c
  have h2 := tms_le 2 k c
  have h3 := tms_le 3 k c
  have h4 := tms_le 4 k c
  have h5 := tms_le 5 k c
  have h6 := tms_le 6 k c
  have h7 := tms_le 7 k c
  have h8 := tms_le 8 k c
  have h9 := tms_le 9 k c
  rcases (show d = 0 ∨ d = 1 ∨ d = 2 ∨ d = 3 ∨ d = 4 ∨ d = 5 ∨ d = 6 ∨ d = 7 ∨ d = 8 ∨ d = 9 by omega) with rfl | rfl | rfl | rfl | rfl | rfl | rfl | rfl | rfl | rfl <;> omega
theorem tly_lt {k c : Nat} (hk : k ≤ 6) : tly k c < 2 ^ 50 := by
  rw [tly_sum k c hk]
  have h0 := tms_le 0 k c
  have h1 := tms_le 1 k c
  have h2 := tms_le 2 k c
  have h3 := tms_le 3 k c
  have h4 := tms_le 4 k c
  have h5 := tms_le 5 k c
  have h6 := tms_le 6 k c
  have h7 := tms_le 7 k c
  have h8 := tms_le 8 k c
  have h9 := tms_le 9 k c
  omega
theorem nibble {k c d : Nat} (hk : k ≤ 6) (hd : d < 10) : (lN (tly k c) >>> (((4 : Int32) * nI d).toInt64 &&& 63)) &&& (15 : Int64) = lN (tms d k c) := by
  have hl := tly_lt (c := c) hk
  have hq : tly k c / 2 ^ (4 * d) ≤ tly k c := Nat.div_le_self _ _
  rw [pf_shr (shr16 d hd) (by omega), show (15 : Int64) = lN (2 ^ 4 - 1) from rfl, wb_mask (by omega) (by decide), ← tly_dig (c := c) hk hd, Nat.pow_mul]
theorem mnL_N {a b : Nat} (ha : a < 2 ^ 31) (hb : b < 2 ^ 31) : (mnL (lN a) (lN b)).toInt32 = nI (min a b) := by
  unfold mnL
  rw [ifc (lN_lt hb ha)]
  by_cases c : b < a
  · rw [if_pos c, lN_i, Nat.min_eq_right (by omega)]
  · rw [if_neg c, lN_i, Nat.min_eq_left (by omega)]
theorem mxI_N {a b : Nat} (ha : a < 2 ^ 31) (hb : b < 2 ^ 31) : mxI (nI a) (nI b) = nI (max a b) := by
  unfold mxI
  rw [ifc (nI_ltI ha hb)]
  by_cases c : a < b
  · rw [if_pos c, Nat.max_eq_right (by omega)]
  · rw [if_neg c, Nat.max_eq_left (by omega)]
theorem mnI_N {a b : Nat} (ha : a < 2 ^ 31) (hb : b < 2 ^ 31) : mnI (nI a) (nI b) = nI (min a b) := by
  unfold mnI
  rw [ifc (nI_ltI hb ha)]
  by_cases c : b < a
  · rw [if_pos c, Nat.min_eq_right (by omega)]
  · rw [if_neg c, Nat.min_eq_left (by omega)]
theorem shared {c e : Nat} : f_Pieces_shared (lN (tly (nd c) c)) (lN (tly (nd e) e)) = some (nI (both c e)) := by
  have n1 := nd_le c
  have n2 := nd_le e
  have key : ∀ (k j f : Nat), j + k = 10 → k < f → f_Pieces_shared_6 (lN (tly (nd c) c)) (lN (tly (nd e) e)) f (nI (sumN (fun d => min (tms d (nd c) c) (tms d (nd e) e)) j)) (nI j) = some (nI (both c e)) := by
    intro k
    induction k with
    | zero =>
      intro j f h1 h2
      obtain ⟨g, rfl⟩ : ∃ g, f = g + 1 := ⟨f - 1, by omega⟩
      have hj : j = 10 := by omega
      subst hj
      rw [f_Pieces_shared_6, if_pos (by decide)]
      rfl
    | succ k ih =>
      intro j f h1 h2
      obtain ⟨g, rfl⟩ : ∃ g, f = g + 1 := ⟨f - 1, by omega⟩
      have t1 := tms_le j (nd c) c
      have t2 := tms_le j (nd e) e
      rw [f_Pieces_shared_6, ifc (ge10 (by omega)), if_neg (by omega), nibble n1 (by omega), nibble n2 (by omega), mnL_N (by omega) (by omega), nI_add, add1]
      exact ih (j + 1) g (by omega) (by omega)
  exact key 10 0 FU (by omega) (by rw [FU_eq]; omega)
theorem likeness {c e : Nat} (hc : vC c = true) (he : vC e = true) : f_Pieces_likeness (nI c) (nI e) = some (nI (alk c e)) := by
  have n1 := nd_le c
  have n2 := nd_le e
  have hb := both_le c e
  unfold f_Pieces_likeness alk
  rw [countOf hc, sb, countOf he, sb, mxI_N (by omega) (by omega), ifc (eq0 (by omega))]
  by_cases c0 : max (nd c) (nd e) = 0
  · rw [if_pos c0, if_pos c0]
    rfl
  · have e1 : (100 : Int32) * nI (both c e) = nI (100 * both c e) := pk_mul 100 _
    rw [if_neg c0, if_neg c0, tally hc, sb, tally he, sb, shared, sb, e1, div_most (by omega) (by omega) (by omega), sb]
