-- ===== numbers =====
def o2i (x : Option Nat) : Int32 := match x with
  | none => -6
  | some j => nI j
theorem o2i_s (j : Nat) : o2i (some j) = nI j := rfl
theorem o2i_n : o2i none = (-6 : Int32) := rfl
theorem nI_ne6 {n : Nat} (h : n < 2 ^ 31) : ¬ nI n = (-6 : Int32) := by
  intro e
  have h1 := nI_toInt h
  rw [e] at h1
  have h2 : ((-6 : Int32)).toInt = -6 := by decide
  omega
theorem o2i_none_iff {x : Option Nat} (h : ∀ j, x = some j → j < 2 ^ 31) : o2i x = (-6 : Int32) ↔ x = none := by
  cases x with
  | none => simp [o2i]
  | some j => simp [o2i, nI_ne6 (h j rfl)]
theorem le_nI {a b : Nat} (ha : a < 2 ^ 31) (hb : b < 2 ^ 31) : (nI a ≤ nI b) = (a ≤ b) := propext (nI_leI ha hb)
theorem lt_nI {a b : Nat} (ha : a < 2 ^ 31) (hb : b < 2 ^ 31) : (nI a < nI b) = (a < b) := propext (nI_ltI ha hb)
theorem eq_nI {a b : Nat} (ha : a < 2 ^ 31) (hb : b < 2 ^ 31) : (nI a = nI b) = (a = b) := propext (nI_eq ha hb)
theorem neg_lt0 {n : Nat} (h : n < 2 ^ 31) : ¬ nI n < (0 : Int32) := nI_pos h
theorem m6_lt0 : (-6 : Int32) < 0 := by decide
theorem lit_nI (n : Nat) : (OfNat.ofNat n : Int32) = nI n := rfl
theorem div10 {a : Nat} (h : a < 2 ^ 31) : nI a / (10 : Int32) = nI (a / 10) := pk_div h (by decide) (by decide)
theorem div100 {a : Nat} (h : a < 2 ^ 31) : nI a / (100 : Int32) = nI (a / 100) := pk_div h (by decide) (by decide)
theorem rem10 {a : Nat} (h : a < 2 ^ 31) : irem (nI a) (10 : Int32) = nI (a % 10) := pk_rem h (by decide) (by decide)
theorem rem100 {a : Nat} (h : a < 2 ^ 31) : irem (nI a) (100 : Int32) = nI (a % 100) := pk_rem h (by decide) (by decide)
theorem sub1 {a : Nat} (h : 0 < a) : nI a - (1 : Int32) = nI (a - 1) := by
  obtain ⟨b, rfl⟩ : ∃ b, a = b + 1 := ⟨a - 1, by omega⟩
  rw [nI_pred]; simp
theorem subm1 {a : Nat} (h : 0 < a) : nI a + (-1 : Int32) = nI (a - 1) := by
  obtain ⟨b, rfl⟩ : ∃ b, a = b + 1 := ⟨a - 1, by omega⟩
  rw [pk_m1]; simp
theorem add1 (a : Nat) : nI a + (1 : Int32) = nI (a + 1) := nI_1 a
theorem if_t {α : Type} {c : Prop} [Decidable c] {a b : α} (h : c) : (if c then a else b) = a := if_pos h
theorem ifc {α : Type} {c d : Prop} [Decidable c] [Decidable d] (h : c ↔ d) (a b : α) : (if c then a else b) = (if d then a else b) := by
  by_cases hd : d
  · rw [if_pos hd, if_pos (h.mpr hd)]
  · rw [if_neg hd, if_neg (fun q => hd (h.mp q))]
-- comparisons with written numbers
theorem lt0 {a : Nat} (h : a < 2 ^ 31) : nI a < (0 : Int32) ↔ a < 0 := nI_ltI h (by decide)
theorem le0 {a : Nat} (h : a < 2 ^ 31) : nI a ≤ (0 : Int32) ↔ a ≤ 0 := nI_leI h (by decide)
theorem gt0 {a : Nat} (h : a < 2 ^ 31) : (0 : Int32) < nI a ↔ 0 < a := nI_ltI (by decide) h
theorem ge0 {a : Nat} (h : a < 2 ^ 31) : (0 : Int32) ≤ nI a ↔ 0 ≤ a := nI_leI (by decide) h
theorem eq0 {a : Nat} (h : a < 2 ^ 31) : nI a = (0 : Int32) ↔ a = 0 := nI_eq h (by decide)
theorem lit0N : (0 : Int32) = nI 0 := rfl
theorem lt1 {a : Nat} (h : a < 2 ^ 31) : nI a < (1 : Int32) ↔ a < 1 := nI_ltI h (by decide)
theorem le1 {a : Nat} (h : a < 2 ^ 31) : nI a ≤ (1 : Int32) ↔ a ≤ 1 := nI_leI h (by decide)
theorem gt1 {a : Nat} (h : a < 2 ^ 31) : (1 : Int32) < nI a ↔ 1 < a := nI_ltI (by decide) h
theorem ge1 {a : Nat} (h : a < 2 ^ 31) : (1 : Int32) ≤ nI a ↔ 1 ≤ a := nI_leI (by decide) h
theorem eq1 {a : Nat} (h : a < 2 ^ 31) : nI a = (1 : Int32) ↔ a = 1 := nI_eq h (by decide)
theorem lit1N : (1 : Int32) = nI 1 := rfl
theorem lt2 {a : Nat} (h : a < 2 ^ 31) : nI a < (2 : Int32) ↔ a < 2 := nI_ltI h (by decide)
theorem le2 {a : Nat} (h : a < 2 ^ 31) : nI a ≤ (2 : Int32) ↔ a ≤ 2 := nI_leI h (by decide)
theorem gt2 {a : Nat} (h : a < 2 ^ 31) : (2 : Int32) < nI a ↔ 2 < a := nI_ltI (by decide) h
theorem ge2 {a : Nat} (h : a < 2 ^ 31) : (2 : Int32) ≤ nI a ↔ 2 ≤ a := nI_leI (by decide) h
theorem eq2 {a : Nat} (h : a < 2 ^ 31) : nI a = (2 : Int32) ↔ a = 2 := nI_eq h (by decide)
theorem lit2N : (2 : Int32) = nI 2 := rfl
theorem lt3 {a : Nat} (h : a < 2 ^ 31) : nI a < (3 : Int32) ↔ a < 3 := nI_ltI h (by decide)
theorem le3 {a : Nat} (h : a < 2 ^ 31) : nI a ≤ (3 : Int32) ↔ a ≤ 3 := nI_leI h (by decide)
theorem gt3 {a : Nat} (h : a < 2 ^ 31) : (3 : Int32) < nI a ↔ 3 < a := nI_ltI (by decide) h
theorem ge3 {a : Nat} (h : a < 2 ^ 31) : (3 : Int32) ≤ nI a ↔ 3 ≤ a := nI_leI (by decide) h
theorem eq3 {a : Nat} (h : a < 2 ^ 31) : nI a = (3 : Int32) ↔ a = 3 := nI_eq h (by decide)
theorem lit3N : (3 : Int32) = nI 3 := rfl
theorem lt4 {a : Nat} (h : a < 2 ^ 31) : nI a < (4 : Int32) ↔ a < 4 := nI_ltI h (by decide)
theorem le4 {a : Nat} (h : a < 2 ^ 31) : nI a ≤ (4 : Int32) ↔ a ≤ 4 := nI_leI h (by decide)
theorem gt4 {a : Nat} (h : a < 2 ^ 31) : (4 : Int32) < nI a ↔ 4 < a := nI_ltI (by decide) h
theorem ge4 {a : Nat} (h : a < 2 ^ 31) : (4 : Int32) ≤ nI a ↔ 4 ≤ a := nI_leI (by decide) h
theorem eq4 {a : Nat} (h : a < 2 ^ 31) : nI a = (4 : Int32) ↔ a = 4 := nI_eq h (by decide)
theorem lit4N : (4 : Int32) = nI 4 := rfl
theorem lt5 {a : Nat} (h : a < 2 ^ 31) : nI a < (5 : Int32) ↔ a < 5 := nI_ltI h (by decide)
theorem le5 {a : Nat} (h : a < 2 ^ 31) : nI a ≤ (5 : Int32) ↔ a ≤ 5 := nI_leI h (by decide)
theorem gt5 {a : Nat} (h : a < 2 ^ 31) : (5 : Int32) < nI a ↔ 5 < a := nI_ltI (by decide) h
theorem ge5 {a : Nat} (h : a < 2 ^ 31) : (5 : Int32) ≤ nI a ↔ 5 ≤ a := nI_leI (by decide) h
theorem eq5 {a : Nat} (h : a < 2 ^ 31) : nI a = (5 : Int32) ↔ a = 5 := nI_eq h (by decide)
theorem lit5N : (5 : Int32) = nI 5 := rfl
theorem lt6 {a : Nat} (h : a < 2 ^ 31) : nI a < (6 : Int32) ↔ a < 6 := nI_ltI h (by decide)
theorem le6 {a : Nat} (h : a < 2 ^ 31) : nI a ≤ (6 : Int32) ↔ a ≤ 6 := nI_leI h (by decide)
theorem gt6 {a : Nat} (h : a < 2 ^ 31) : (6 : Int32) < nI a ↔ 6 < a := nI_ltI (by decide) h
theorem ge6 {a : Nat} (h : a < 2 ^ 31) : (6 : Int32) ≤ nI a ↔ 6 ≤ a := nI_leI (by decide) h
theorem eq6 {a : Nat} (h : a < 2 ^ 31) : nI a = (6 : Int32) ↔ a = 6 := nI_eq h (by decide)
theorem lit6N : (6 : Int32) = nI 6 := rfl
theorem lt8 {a : Nat} (h : a < 2 ^ 31) : nI a < (8 : Int32) ↔ a < 8 := nI_ltI h (by decide)
theorem le8 {a : Nat} (h : a < 2 ^ 31) : nI a ≤ (8 : Int32) ↔ a ≤ 8 := nI_leI h (by decide)
theorem gt8 {a : Nat} (h : a < 2 ^ 31) : (8 : Int32) < nI a ↔ 8 < a := nI_ltI (by decide) h
theorem ge8 {a : Nat} (h : a < 2 ^ 31) : (8 : Int32) ≤ nI a ↔ 8 ≤ a := nI_leI (by decide) h
theorem eq8 {a : Nat} (h : a < 2 ^ 31) : nI a = (8 : Int32) ↔ a = 8 := nI_eq h (by decide)
theorem lit8N : (8 : Int32) = nI 8 := rfl
theorem lt9 {a : Nat} (h : a < 2 ^ 31) : nI a < (9 : Int32) ↔ a < 9 := nI_ltI h (by decide)
theorem le9 {a : Nat} (h : a < 2 ^ 31) : nI a ≤ (9 : Int32) ↔ a ≤ 9 := nI_leI h (by decide)
theorem gt9 {a : Nat} (h : a < 2 ^ 31) : (9 : Int32) < nI a ↔ 9 < a := nI_ltI (by decide) h
theorem ge9 {a : Nat} (h : a < 2 ^ 31) : (9 : Int32) ≤ nI a ↔ 9 ≤ a := nI_leI (by decide) h
theorem eq9 {a : Nat} (h : a < 2 ^ 31) : nI a = (9 : Int32) ↔ a = 9 := nI_eq h (by decide)
theorem lit9N : (9 : Int32) = nI 9 := rfl
theorem lt10 {a : Nat} (h : a < 2 ^ 31) : nI a < (10 : Int32) ↔ a < 10 := nI_ltI h (by decide)
theorem le10 {a : Nat} (h : a < 2 ^ 31) : nI a ≤ (10 : Int32) ↔ a ≤ 10 := nI_leI h (by decide)
theorem gt10 {a : Nat} (h : a < 2 ^ 31) : (10 : Int32) < nI a ↔ 10 < a := nI_ltI (by decide) h
theorem ge10 {a : Nat} (h : a < 2 ^ 31) : (10 : Int32) ≤ nI a ↔ 10 ≤ a := nI_leI (by decide) h
theorem eq10 {a : Nat} (h : a < 2 ^ 31) : nI a = (10 : Int32) ↔ a = 10 := nI_eq h (by decide)
theorem lit10N : (10 : Int32) = nI 10 := rfl
theorem lt12 {a : Nat} (h : a < 2 ^ 31) : nI a < (12 : Int32) ↔ a < 12 := nI_ltI h (by decide)
theorem le12 {a : Nat} (h : a < 2 ^ 31) : nI a ≤ (12 : Int32) ↔ a ≤ 12 := nI_leI h (by decide)
theorem gt12 {a : Nat} (h : a < 2 ^ 31) : (12 : Int32) < nI a ↔ 12 < a := nI_ltI (by decide) h
theorem ge12 {a : Nat} (h : a < 2 ^ 31) : (12 : Int32) ≤ nI a ↔ 12 ≤ a := nI_leI (by decide) h
theorem eq12 {a : Nat} (h : a < 2 ^ 31) : nI a = (12 : Int32) ↔ a = 12 := nI_eq h (by decide)
theorem lit12N : (12 : Int32) = nI 12 := rfl
theorem lt25 {a : Nat} (h : a < 2 ^ 31) : nI a < (25 : Int32) ↔ a < 25 := nI_ltI h (by decide)
theorem le25 {a : Nat} (h : a < 2 ^ 31) : nI a ≤ (25 : Int32) ↔ a ≤ 25 := nI_leI h (by decide)
theorem gt25 {a : Nat} (h : a < 2 ^ 31) : (25 : Int32) < nI a ↔ 25 < a := nI_ltI (by decide) h
theorem ge25 {a : Nat} (h : a < 2 ^ 31) : (25 : Int32) ≤ nI a ↔ 25 ≤ a := nI_leI (by decide) h
theorem eq25 {a : Nat} (h : a < 2 ^ 31) : nI a = (25 : Int32) ↔ a = 25 := nI_eq h (by decide)
theorem lit25N : (25 : Int32) = nI 25 := rfl
theorem lt33 {a : Nat} (h : a < 2 ^ 31) : nI a < (33 : Int32) ↔ a < 33 := nI_ltI h (by decide)
theorem le33 {a : Nat} (h : a < 2 ^ 31) : nI a ≤ (33 : Int32) ↔ a ≤ 33 := nI_leI h (by decide)
theorem gt33 {a : Nat} (h : a < 2 ^ 31) : (33 : Int32) < nI a ↔ 33 < a := nI_ltI (by decide) h
theorem ge33 {a : Nat} (h : a < 2 ^ 31) : (33 : Int32) ≤ nI a ↔ 33 ≤ a := nI_leI (by decide) h
theorem eq33 {a : Nat} (h : a < 2 ^ 31) : nI a = (33 : Int32) ↔ a = 33 := nI_eq h (by decide)
theorem lit33N : (33 : Int32) = nI 33 := rfl
theorem lt36 {a : Nat} (h : a < 2 ^ 31) : nI a < (36 : Int32) ↔ a < 36 := nI_ltI h (by decide)
theorem le36 {a : Nat} (h : a < 2 ^ 31) : nI a ≤ (36 : Int32) ↔ a ≤ 36 := nI_leI h (by decide)
theorem gt36 {a : Nat} (h : a < 2 ^ 31) : (36 : Int32) < nI a ↔ 36 < a := nI_ltI (by decide) h
theorem ge36 {a : Nat} (h : a < 2 ^ 31) : (36 : Int32) ≤ nI a ↔ 36 ≤ a := nI_leI (by decide) h
theorem eq36 {a : Nat} (h : a < 2 ^ 31) : nI a = (36 : Int32) ↔ a = 36 := nI_eq h (by decide)
theorem lit36N : (36 : Int32) = nI 36 := rfl
theorem lt48 {a : Nat} (h : a < 2 ^ 31) : nI a < (48 : Int32) ↔ a < 48 := nI_ltI h (by decide)
theorem le48 {a : Nat} (h : a < 2 ^ 31) : nI a ≤ (48 : Int32) ↔ a ≤ 48 := nI_leI h (by decide)
theorem gt48 {a : Nat} (h : a < 2 ^ 31) : (48 : Int32) < nI a ↔ 48 < a := nI_ltI (by decide) h
theorem ge48 {a : Nat} (h : a < 2 ^ 31) : (48 : Int32) ≤ nI a ↔ 48 ≤ a := nI_leI (by decide) h
theorem eq48 {a : Nat} (h : a < 2 ^ 31) : nI a = (48 : Int32) ↔ a = 48 := nI_eq h (by decide)
theorem lit48N : (48 : Int32) = nI 48 := rfl
theorem lt49 {a : Nat} (h : a < 2 ^ 31) : nI a < (49 : Int32) ↔ a < 49 := nI_ltI h (by decide)
theorem le49 {a : Nat} (h : a < 2 ^ 31) : nI a ≤ (49 : Int32) ↔ a ≤ 49 := nI_leI h (by decide)
theorem gt49 {a : Nat} (h : a < 2 ^ 31) : (49 : Int32) < nI a ↔ 49 < a := nI_ltI (by decide) h
theorem ge49 {a : Nat} (h : a < 2 ^ 31) : (49 : Int32) ≤ nI a ↔ 49 ≤ a := nI_leI (by decide) h
theorem eq49 {a : Nat} (h : a < 2 ^ 31) : nI a = (49 : Int32) ↔ a = 49 := nI_eq h (by decide)
theorem lit49N : (49 : Int32) = nI 49 := rfl
theorem lt57 {a : Nat} (h : a < 2 ^ 31) : nI a < (57 : Int32) ↔ a < 57 := nI_ltI h (by decide)
theorem le57 {a : Nat} (h : a < 2 ^ 31) : nI a ≤ (57 : Int32) ↔ a ≤ 57 := nI_leI h (by decide)
theorem gt57 {a : Nat} (h : a < 2 ^ 31) : (57 : Int32) < nI a ↔ 57 < a := nI_ltI (by decide) h
theorem ge57 {a : Nat} (h : a < 2 ^ 31) : (57 : Int32) ≤ nI a ↔ 57 ≤ a := nI_leI (by decide) h
theorem eq57 {a : Nat} (h : a < 2 ^ 31) : nI a = (57 : Int32) ↔ a = 57 := nI_eq h (by decide)
theorem lit57N : (57 : Int32) = nI 57 := rfl
theorem lt60 {a : Nat} (h : a < 2 ^ 31) : nI a < (60 : Int32) ↔ a < 60 := nI_ltI h (by decide)
theorem le60 {a : Nat} (h : a < 2 ^ 31) : nI a ≤ (60 : Int32) ↔ a ≤ 60 := nI_leI h (by decide)
theorem gt60 {a : Nat} (h : a < 2 ^ 31) : (60 : Int32) < nI a ↔ 60 < a := nI_ltI (by decide) h
theorem ge60 {a : Nat} (h : a < 2 ^ 31) : (60 : Int32) ≤ nI a ↔ 60 ≤ a := nI_leI (by decide) h
theorem eq60 {a : Nat} (h : a < 2 ^ 31) : nI a = (60 : Int32) ↔ a = 60 := nI_eq h (by decide)
theorem lit60N : (60 : Int32) = nI 60 := rfl
theorem lt61 {a : Nat} (h : a < 2 ^ 31) : nI a < (61 : Int32) ↔ a < 61 := nI_ltI h (by decide)
theorem le61 {a : Nat} (h : a < 2 ^ 31) : nI a ≤ (61 : Int32) ↔ a ≤ 61 := nI_leI h (by decide)
theorem gt61 {a : Nat} (h : a < 2 ^ 31) : (61 : Int32) < nI a ↔ 61 < a := nI_ltI (by decide) h
theorem ge61 {a : Nat} (h : a < 2 ^ 31) : (61 : Int32) ≤ nI a ↔ 61 ≤ a := nI_leI (by decide) h
theorem eq61 {a : Nat} (h : a < 2 ^ 31) : nI a = (61 : Int32) ↔ a = 61 := nI_eq h (by decide)
theorem lit61N : (61 : Int32) = nI 61 := rfl
theorem lt65 {a : Nat} (h : a < 2 ^ 31) : nI a < (65 : Int32) ↔ a < 65 := nI_ltI h (by decide)
theorem le65 {a : Nat} (h : a < 2 ^ 31) : nI a ≤ (65 : Int32) ↔ a ≤ 65 := nI_leI h (by decide)
theorem gt65 {a : Nat} (h : a < 2 ^ 31) : (65 : Int32) < nI a ↔ 65 < a := nI_ltI (by decide) h
theorem ge65 {a : Nat} (h : a < 2 ^ 31) : (65 : Int32) ≤ nI a ↔ 65 ≤ a := nI_leI (by decide) h
theorem eq65 {a : Nat} (h : a < 2 ^ 31) : nI a = (65 : Int32) ↔ a = 65 := nI_eq h (by decide)
theorem lit65N : (65 : Int32) = nI 65 := rfl
theorem lt68 {a : Nat} (h : a < 2 ^ 31) : nI a < (68 : Int32) ↔ a < 68 := nI_ltI h (by decide)
theorem le68 {a : Nat} (h : a < 2 ^ 31) : nI a ≤ (68 : Int32) ↔ a ≤ 68 := nI_leI h (by decide)
theorem gt68 {a : Nat} (h : a < 2 ^ 31) : (68 : Int32) < nI a ↔ 68 < a := nI_ltI (by decide) h
theorem ge68 {a : Nat} (h : a < 2 ^ 31) : (68 : Int32) ≤ nI a ↔ 68 ≤ a := nI_leI (by decide) h
theorem eq68 {a : Nat} (h : a < 2 ^ 31) : nI a = (68 : Int32) ↔ a = 68 := nI_eq h (by decide)
theorem lit68N : (68 : Int32) = nI 68 := rfl
theorem lt97 {a : Nat} (h : a < 2 ^ 31) : nI a < (97 : Int32) ↔ a < 97 := nI_ltI h (by decide)
theorem le97 {a : Nat} (h : a < 2 ^ 31) : nI a ≤ (97 : Int32) ↔ a ≤ 97 := nI_leI h (by decide)
theorem gt97 {a : Nat} (h : a < 2 ^ 31) : (97 : Int32) < nI a ↔ 97 < a := nI_ltI (by decide) h
theorem ge97 {a : Nat} (h : a < 2 ^ 31) : (97 : Int32) ≤ nI a ↔ 97 ≤ a := nI_leI (by decide) h
theorem eq97 {a : Nat} (h : a < 2 ^ 31) : nI a = (97 : Int32) ↔ a = 97 := nI_eq h (by decide)
theorem lit97N : (97 : Int32) = nI 97 := rfl
theorem lt100 {a : Nat} (h : a < 2 ^ 31) : nI a < (100 : Int32) ↔ a < 100 := nI_ltI h (by decide)
theorem le100 {a : Nat} (h : a < 2 ^ 31) : nI a ≤ (100 : Int32) ↔ a ≤ 100 := nI_leI h (by decide)
theorem gt100 {a : Nat} (h : a < 2 ^ 31) : (100 : Int32) < nI a ↔ 100 < a := nI_ltI (by decide) h
theorem ge100 {a : Nat} (h : a < 2 ^ 31) : (100 : Int32) ≤ nI a ↔ 100 ≤ a := nI_leI (by decide) h
theorem eq100 {a : Nat} (h : a < 2 ^ 31) : nI a = (100 : Int32) ↔ a = 100 := nI_eq h (by decide)
theorem lit100N : (100 : Int32) = nI 100 := rfl
theorem lt101 {a : Nat} (h : a < 2 ^ 31) : nI a < (101 : Int32) ↔ a < 101 := nI_ltI h (by decide)
theorem le101 {a : Nat} (h : a < 2 ^ 31) : nI a ≤ (101 : Int32) ↔ a ≤ 101 := nI_leI h (by decide)
theorem gt101 {a : Nat} (h : a < 2 ^ 31) : (101 : Int32) < nI a ↔ 101 < a := nI_ltI (by decide) h
theorem ge101 {a : Nat} (h : a < 2 ^ 31) : (101 : Int32) ≤ nI a ↔ 101 ≤ a := nI_leI (by decide) h
theorem eq101 {a : Nat} (h : a < 2 ^ 31) : nI a = (101 : Int32) ↔ a = 101 := nI_eq h (by decide)
theorem lit101N : (101 : Int32) = nI 101 := rfl
theorem lt104 {a : Nat} (h : a < 2 ^ 31) : nI a < (104 : Int32) ↔ a < 104 := nI_ltI h (by decide)
theorem le104 {a : Nat} (h : a < 2 ^ 31) : nI a ≤ (104 : Int32) ↔ a ≤ 104 := nI_leI h (by decide)
theorem gt104 {a : Nat} (h : a < 2 ^ 31) : (104 : Int32) < nI a ↔ 104 < a := nI_ltI (by decide) h
theorem ge104 {a : Nat} (h : a < 2 ^ 31) : (104 : Int32) ≤ nI a ↔ 104 ≤ a := nI_leI (by decide) h
theorem eq104 {a : Nat} (h : a < 2 ^ 31) : nI a = (104 : Int32) ↔ a = 104 := nI_eq h (by decide)
theorem lit104N : (104 : Int32) = nI 104 := rfl
theorem lt126 {a : Nat} (h : a < 2 ^ 31) : nI a < (126 : Int32) ↔ a < 126 := nI_ltI h (by decide)
theorem le126 {a : Nat} (h : a < 2 ^ 31) : nI a ≤ (126 : Int32) ↔ a ≤ 126 := nI_leI h (by decide)
theorem gt126 {a : Nat} (h : a < 2 ^ 31) : (126 : Int32) < nI a ↔ 126 < a := nI_ltI (by decide) h
theorem ge126 {a : Nat} (h : a < 2 ^ 31) : (126 : Int32) ≤ nI a ↔ 126 ≤ a := nI_leI (by decide) h
theorem eq126 {a : Nat} (h : a < 2 ^ 31) : nI a = (126 : Int32) ↔ a = 126 := nI_eq h (by decide)
theorem lit126N : (126 : Int32) = nI 126 := rfl
theorem lt444 {a : Nat} (h : a < 2 ^ 31) : nI a < (444 : Int32) ↔ a < 444 := nI_ltI h (by decide)
theorem le444 {a : Nat} (h : a < 2 ^ 31) : nI a ≤ (444 : Int32) ↔ a ≤ 444 := nI_leI h (by decide)
theorem gt444 {a : Nat} (h : a < 2 ^ 31) : (444 : Int32) < nI a ↔ 444 < a := nI_ltI (by decide) h
theorem ge444 {a : Nat} (h : a < 2 ^ 31) : (444 : Int32) ≤ nI a ↔ 444 ≤ a := nI_leI (by decide) h
theorem eq444 {a : Nat} (h : a < 2 ^ 31) : nI a = (444 : Int32) ↔ a = 444 := nI_eq h (by decide)
theorem lit444N : (444 : Int32) = nI 444 := rfl
theorem lt445 {a : Nat} (h : a < 2 ^ 31) : nI a < (445 : Int32) ↔ a < 445 := nI_ltI h (by decide)
theorem le445 {a : Nat} (h : a < 2 ^ 31) : nI a ≤ (445 : Int32) ↔ a ≤ 445 := nI_leI h (by decide)
theorem gt445 {a : Nat} (h : a < 2 ^ 31) : (445 : Int32) < nI a ↔ 445 < a := nI_ltI (by decide) h
theorem ge445 {a : Nat} (h : a < 2 ^ 31) : (445 : Int32) ≤ nI a ↔ 445 ≤ a := nI_leI (by decide) h
theorem eq445 {a : Nat} (h : a < 2 ^ 31) : nI a = (445 : Int32) ↔ a = 445 := nI_eq h (by decide)
theorem lit445N : (445 : Int32) = nI 445 := rfl
-- ===== first, count =====
def fnd (q : Nat → Bool) : Nat → Nat → Option Nat
  | _, 0 => none
  | i, k + 1 => if q i = true then some i else fnd q (i + 1) k
theorem fnd_some {q : Nat → Bool} : ∀ (k i j : Nat), fnd q i k = some j → i ≤ j ∧ j < i + k ∧ q j = true ∧ ∀ t, i ≤ t → t < j → q t = false := by
  intro k
  induction k with
  | zero => intro i j h; simp [fnd] at h
  | succ k ih =>
    intro i j h
    rw [fnd] at h
    by_cases hq : q i = true
    · rw [if_pos hq] at h
      cases h
      exact ⟨Nat.le_refl _, by omega, hq, fun t h1 h2 => by omega⟩
    · rw [if_neg hq] at h
      obtain ⟨h1, h2, h3, h4⟩ := ih (i + 1) j h
      refine ⟨by omega, by omega, h3, fun t h5 h6 => ?_⟩
      by_cases ht : t = i
      · rw [ht]; simpa using hq
      · exact h4 t (by omega) h6
theorem fnd_none {q : Nat → Bool} : ∀ (k i : Nat), fnd q i k = none → ∀ t, i ≤ t → t < i + k → q t = false := by
  intro k
  induction k with
  | zero => intro i h t h1 h2; omega
  | succ k ih =>
    intro i h t h1 h2
    rw [fnd] at h
    by_cases hq : q i = true
    · rw [if_pos hq] at h; cases h
    · rw [if_neg hq] at h
      by_cases ht : t = i
      · rw [ht]; simpa using hq
      · exact ih (i + 1) h t (by omega) (by omega)
theorem fnd_eq {q : Nat → Bool} {k i j : Nat} (h1 : i ≤ j) (h2 : j < i + k) (h3 : q j = true) (h4 : ∀ t, i ≤ t → t < j → q t = false) : fnd q i k = some j := by
  cases h : fnd q i k with
  | none => rw [fnd_none k i h j h1 h2] at h3; cases h3
  | some x =>
    obtain ⟨g1, g2, g3, g4⟩ := fnd_some k i x h
    by_cases hx : x < j
    · rw [h4 x g1 hx] at g3; cases g3
    · by_cases hx2 : j < x
      · rw [g4 j h1 hx2] at h3; cases h3
      · have : x = j := by omega
        rw [this]
theorem fnd_no {q : Nat → Bool} {k i : Nat} (h : ∀ t, i ≤ t → t < i + k → q t = false) : fnd q i k = none := by
  cases e : fnd q i k with
  | none => rfl
  | some j =>
    obtain ⟨h1, h2, h3, -⟩ := fnd_some k i j e
    rw [h j h1 h2] at h3; cases h3
theorem fnd_cong {q q' : Nat → Bool} : ∀ (k i : Nat), (∀ t, i ≤ t → t < i + k → q t = q' t) → fnd q i k = fnd q' i k := by
  intro k
  induction k with
  | zero => intro i h; rfl
  | succ k ih =>
    intro i h
    rw [fnd, fnd, h i (Nat.le_refl _) (by omega), ih (i + 1) (fun t h1 h2 => h t (by omega) (by omega))]
def cnt (q : Nat → Bool) : Nat → Nat
  | 0 => 0
  | n + 1 => cnt q n + (if q n = true then 1 else 0)
theorem cnt_le (q : Nat → Bool) : ∀ n, cnt q n ≤ n := by
  intro n
  induction n with
  | zero => exact Nat.le_refl _
  | succ n ih => rw [cnt]; split <;> omega
theorem cnt_cong {q q' : Nat → Bool} : ∀ n, (∀ t, t < n → q t = q' t) → cnt q n = cnt q' n := by
  intro n
  induction n with
  | zero => intro h; rfl
  | succ n ih => intro h; rw [cnt, cnt, h n (by omega), ih (fun t ht => h t (by omega))]
-- ===== loops that count up, without and with an early end =====
def rep {σ : Type} (step : Nat → σ → σ) : Nat → Nat → σ → σ
  | _, 0, s => s
  | i, k + 1, s => rep step (i + 1) k (step i s)
theorem loop_up {σ R : Type} (F : Nat → Int32 → σ → Option R) (ex : σ → Option R) (step : Nat → σ → σ) (N : Nat) (J : Nat → σ → Prop)
    (hx : ∀ f s, J N s → F (f + 1) (nI N) s = ex s) (hs : ∀ f i s, i < N → J i s → F (f + 1) (nI i) s = F f (nI (i + 1)) (step i s) ∧ J (i + 1) (step i s)) :
    ∀ (k i f : Nat) (s : σ), i + k = N → k < f → J i s → F f (nI i) s = ex (rep step i k s) ∧ J N (rep step i k s) := by
  intro k
  induction k with
  | zero =>
    intro i f s h1 h2 h3
    obtain ⟨g, rfl⟩ : ∃ g, f = g + 1 := ⟨f - 1, by omega⟩
    have : i = N := by omega
    subst this
    exact ⟨hx g s h3, h3⟩
  | succ k ih =>
    intro i f s h1 h2 h3
    obtain ⟨g, rfl⟩ : ∃ g, f = g + 1 := ⟨f - 1, by omega⟩
    obtain ⟨e1, e2⟩ := hs g i s (by omega) h3
    rw [e1]
    exact ih (i + 1) g (step i s) (by omega) (by omega) e2
theorem FU_eq : FU = 4000 := rfl
-- ===== trees =====
def isT (r : Nat) : Bool := r == 4 || r == 7 || r == 10 || r == 14 || r == 17 || r == 20 || r == 24 || r == 27 || r == 30
theorem isT_cases {r : Nat} (h : isT r = true) : r = 4 ∨ r = 7 ∨ r = 10 ∨ r = 14 ∨ r = 17 ∨ r = 20 ∨ r = 24 ∨ r = 27 ∨ r = 30 := by
  simpa [isT, or_assoc] using h
section TR
variable {A I : Nat → Nat → Int32} {sw : Bool} {r : Nat}
theorem T_ck {α : Type} {x : Option α} (h : isT r = true) : ck (Wd A I sw) 7 r x = x := ck_W (by rcases isT_cases h with rfl | rfl | rfl | rfl | rfl | rfl | rfl | rfl | rfl <;> decide)
theorem T_I (h : isT r = true) : isI 7 r 2 = true := by rcases isT_cases h with rfl | rfl | rfl | rfl | rfl | rfl | rfl | rfl | rfl <;> decide
theorem T_p (h : isT r = true) : gR (Wd A I sw) 7 r 0 = some (r + 1) := by
  rw [gR_W (by rcases isT_cases h with rfl | rfl | rfl | rfl | rfl | rfl | rfl | rfl | rfl <;> decide)]
  rcases isT_cases h with rfl | rfl | rfl | rfl | rfl | rfl | rfl | rfl | rfl <;> cases sw <;> decide
theorem T_c (h : isT r = true) : gR (Wd A I sw) 7 r 1 = some (r + 2) := by
  rw [gR_W (by rcases isT_cases h with rfl | rfl | rfl | rfl | rfl | rfl | rfl | rfl | rfl <;> decide)]
  rcases isT_cases h with rfl | rfl | rfl | rfl | rfl | rfl | rfl | rfl | rfl <;> cases sw <;> decide
theorem T_Ap (h : isT r = true) : isAr false 12 (r + 1) = true := by rcases isT_cases h with rfl | rfl | rfl | rfl | rfl | rfl | rfl | rfl | rfl <;> decide
theorem T_Ac (h : isT r = true) : isAr false 12 (r + 2) = true := by rcases isT_cases h with rfl | rfl | rfl | rfl | rfl | rfl | rfl | rfl | rfl <;> decide
theorem T_n (h : isT r = true) : gI (Wd A I sw) 7 r 2 = some (I r 2) := gI_W (T_I h)
theorem T_sn {x : Int32} (h : isT r = true) : sI (Wd A I sw) 7 r 2 x = some (Wd A (up2 I r 2 x) sw) := sI_W (T_I h)
theorem T_gp {i : Nat} (h : isT r = true) (hi : i < 12) : gA (Wd A I sw) false (r + 1) (nI i) = some (A (r + 1) i) := gA_W (T_Ap h) hi (by decide)
theorem T_gc {i : Nat} (h : isT r = true) (hi : i < 12) : gA (Wd A I sw) false (r + 2) (nI i) = some (A (r + 2) i) := gA_W (T_Ac h) hi (by decide)
theorem T_sp {i : Nat} {x : Int32} (h : isT r = true) (hi : i < 12) : sA (Wd A I sw) (r + 1) (nI i) x = some (Wd (up2 A (r + 1) i x) I sw) := sA_W (T_Ap h) hi (by decide)
theorem T_sc {i : Nat} {x : Int32} (h : isT r = true) (hi : i < 12) : sA (Wd A I sw) (r + 2) (nI i) x = some (Wd (up2 A (r + 2) i x) I sw) := sA_W (T_Ac h) hi (by decide)
end TR
abbrev Tre : Type := Nat × (Nat → Nat) × (Nat → Nat)
/-- the tree at r holds X: how many files, their paths, their contents -/
def TreeIs (A I : Nat → Nat → Int32) (r : Nat) (X : Tre) : Prop := I r 2 = nI X.1 ∧ X.1 ≤ 12 ∧ ∀ i, i < X.1 → A (r + 1) i = nI (X.2.1 i) ∧ A (r + 2) i = nI (X.2.2 i)
