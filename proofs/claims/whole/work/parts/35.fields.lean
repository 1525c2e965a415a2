section FD
variable {A I : Nat → Nat → Int32} {sw : Bool}
theorem kk_0 {α : Type} {x : Option α} : ck (Wd A I sw) 8 0 x = x := ck_W (by decide)
theorem rr_0_0 : gR (Wd A I sw) 8 0 0 = some 1 := by
  rw [gR_W (by decide)]
  cases sw <;> rfl
theorem rr_0_1 : gR (Wd A I sw) 8 0 1 = some 3 := by
  rw [gR_W (by decide)]
  cases sw <;> rfl
theorem rr_0_2 : gR (Wd A I sw) 8 0 2 = some 13 := by
  rw [gR_W (by decide)]
  cases sw <;> rfl
theorem rr_0_3 : gR (Wd A I sw) 8 0 3 = some 23 := by
  rw [gR_W (by decide)]
  cases sw <;> rfl
theorem rr_0_4 : gR (Wd A I sw) 8 0 4 = some 33 := by
  rw [gR_W (by decide)]
  cases sw <;> rfl
theorem rr_0_5 : gR (Wd A I sw) 8 0 5 = some 34 := by
  rw [gR_W (by decide)]
  cases sw <;> rfl
theorem rr_0_6 : gR (Wd A I sw) 8 0 6 = some 44 := by
  rw [gR_W (by decide)]
  cases sw <;> rfl
theorem rr_0_7 : gR (Wd A I sw) 8 0 7 = some 54 := by
  rw [gR_W (by decide)]
  cases sw <;> rfl
theorem rr_0_8 : gR (Wd A I sw) 8 0 8 = some 56 := by
  rw [gR_W (by decide)]
  cases sw <;> rfl
theorem gg_0_9 : gI (Wd A I sw) 8 0 9 = some (I 0 9) := gI_W (by decide)
theorem ss_0_9 {x : Int32} : sI (Wd A I sw) 8 0 9 x = some (Wd A (up2 I 0 9 x) sw) := sI_W (by decide)
theorem kk_1 {α : Type} {x : Option α} : ck (Wd A I sw) 4 1 x = x := ck_W (by decide)
theorem rr_1_0 : gR (Wd A I sw) 4 1 0 = some 2 := by
  rw [gR_W (by decide)]
  cases sw <;> rfl
theorem gg_1_1 : gI (Wd A I sw) 4 1 1 = some (I 1 1) := gI_W (by decide)
theorem ss_1_1 {x : Int32} : sI (Wd A I sw) 4 1 1 x = some (Wd A (up2 I 1 1 x) sw) := sI_W (by decide)
theorem kk_3 {α : Type} {x : Option α} : ck (Wd A I sw) 0 3 x = x := ck_W (by decide)
theorem rr_3_0 : gR (Wd A I sw) 0 3 0 = some 4 := by
  rw [gR_W (by decide)]
  cases sw <;> rfl
theorem rr_3_1 : gR (Wd A I sw) 0 3 1 = some (RF sw 3 1) := gR_W (by decide)
theorem rr_3_2 : gR (Wd A I sw) 0 3 2 = some (RF sw 3 2) := gR_W (by decide)
theorem gg_3_3 : gI (Wd A I sw) 0 3 3 = some (I 3 3) := gI_W (by decide)
theorem ss_3_3 {x : Int32} : sI (Wd A I sw) 0 3 3 x = some (Wd A (up2 I 3 3 x) sw) := sI_W (by decide)
theorem kk_13 {α : Type} {x : Option α} : ck (Wd A I sw) 0 13 x = x := ck_W (by decide)
theorem rr_13_0 : gR (Wd A I sw) 0 13 0 = some 14 := by
  rw [gR_W (by decide)]
  cases sw <;> rfl
theorem rr_13_1 : gR (Wd A I sw) 0 13 1 = some 17 := by
  rw [gR_W (by decide)]
  cases sw <;> rfl
theorem rr_13_2 : gR (Wd A I sw) 0 13 2 = some 20 := by
  rw [gR_W (by decide)]
  cases sw <;> rfl
theorem gg_13_3 : gI (Wd A I sw) 0 13 3 = some (I 13 3) := gI_W (by decide)
theorem ss_13_3 {x : Int32} : sI (Wd A I sw) 0 13 3 x = some (Wd A (up2 I 13 3 x) sw) := sI_W (by decide)
theorem kk_23 {α : Type} {x : Option α} : ck (Wd A I sw) 0 23 x = x := ck_W (by decide)
theorem rr_23_0 : gR (Wd A I sw) 0 23 0 = some 24 := by
  rw [gR_W (by decide)]
  cases sw <;> rfl
theorem rr_23_1 : gR (Wd A I sw) 0 23 1 = some 27 := by
  rw [gR_W (by decide)]
  cases sw <;> rfl
theorem rr_23_2 : gR (Wd A I sw) 0 23 2 = some 30 := by
  rw [gR_W (by decide)]
  cases sw <;> rfl
theorem gg_23_3 : gI (Wd A I sw) 0 23 3 = some (I 23 3) := gI_W (by decide)
theorem ss_23_3 {x : Int32} : sI (Wd A I sw) 0 23 3 x = some (Wd A (up2 I 23 3 x) sw) := sI_W (by decide)
theorem kk_34 {α : Type} {x : Option α} : ck (Wd A I sw) 6 34 x = x := ck_W (by decide)
theorem rr_34_0 : gR (Wd A I sw) 6 34 0 = some 35 := by
  rw [gR_W (by decide)]
  cases sw <;> rfl
theorem rr_34_1 : gR (Wd A I sw) 6 34 1 = some 40 := by
  rw [gR_W (by decide)]
  cases sw <;> rfl
theorem kk_44 {α : Type} {x : Option α} : ck (Wd A I sw) 6 44 x = x := ck_W (by decide)
theorem rr_44_0 : gR (Wd A I sw) 6 44 0 = some 45 := by
  rw [gR_W (by decide)]
  cases sw <;> rfl
theorem rr_44_1 : gR (Wd A I sw) 6 44 1 = some 50 := by
  rw [gR_W (by decide)]
  cases sw <;> rfl
theorem kk_54 {α : Type} {x : Option α} : ck (Wd A I sw) 1 54 x = x := ck_W (by decide)
theorem rr_54_0 : gR (Wd A I sw) 1 54 0 = some 55 := by
  rw [gR_W (by decide)]
  cases sw <;> rfl
theorem gg_54_1 : gI (Wd A I sw) 1 54 1 = some (I 54 1) := gI_W (by decide)
theorem ss_54_1 {x : Int32} : sI (Wd A I sw) 1 54 1 x = some (Wd A (up2 I 54 1 x) sw) := sI_W (by decide)
theorem kk_56 {α : Type} {x : Option α} : ck (Wd A I sw) 2 56 x = x := ck_W (by decide)
theorem rr_56_0 : gR (Wd A I sw) 2 56 0 = some 57 := by
  rw [gR_W (by decide)]
  cases sw <;> rfl
theorem rr_56_1 : gR (Wd A I sw) 2 56 1 = some 58 := by
  rw [gR_W (by decide)]
  cases sw <;> rfl
theorem rr_56_2 : gR (Wd A I sw) 2 56 2 = some 59 := by
  rw [gR_W (by decide)]
  cases sw <;> rfl
theorem rr_56_3 : gR (Wd A I sw) 2 56 3 = some 60 := by
  rw [gR_W (by decide)]
  cases sw <;> rfl
theorem gg_56_4 : gI (Wd A I sw) 2 56 4 = some (I 56 4) := gI_W (by decide)
theorem ss_56_4 {x : Int32} : sI (Wd A I sw) 2 56 4 x = some (Wd A (up2 I 56 4 x) sw) := sI_W (by decide)
theorem rr_56_5 : gR (Wd A I sw) 2 56 5 = some 61 := by
  rw [gR_W (by decide)]
  cases sw <;> rfl
theorem rr_56_6 : gR (Wd A I sw) 2 56 6 = some 62 := by
  rw [gR_W (by decide)]
  cases sw <;> rfl
theorem gg_56_7 : gI (Wd A I sw) 2 56 7 = some (I 56 7) := gI_W (by decide)
theorem ss_56_7 {x : Int32} : sI (Wd A I sw) 2 56 7 x = some (Wd A (up2 I 56 7 x) sw) := sI_W (by decide)
theorem rr_56_8 : gR (Wd A I sw) 2 56 8 = some 63 := by
  rw [gR_W (by decide)]
  cases sw <;> rfl
theorem kk_64 {α : Type} {x : Option α} : ck (Wd A I sw) 9 64 x = x := ck_W (by decide)
theorem rr_64_0 : gR (Wd A I sw) 9 64 0 = some 65 := by
  rw [gR_W (by decide)]
  cases sw <;> rfl
theorem rr_64_1 : gR (Wd A I sw) 9 64 1 = some 66 := by
  rw [gR_W (by decide)]
  cases sw <;> rfl
theorem rr_64_2 : gR (Wd A I sw) 9 64 2 = some 67 := by
  rw [gR_W (by decide)]
  cases sw <;> rfl
theorem gg_64_3 : gI (Wd A I sw) 9 64 3 = some (I 64 3) := gI_W (by decide)
theorem ss_64_3 {x : Int32} : sI (Wd A I sw) 9 64 3 x = some (Wd A (up2 I 64 3 x) sw) := sI_W (by decide)
theorem rr_64_4 : gR (Wd A I sw) 9 64 4 = some 68 := by
  rw [gR_W (by decide)]
  cases sw <;> rfl
theorem gg_64_5 : gI (Wd A I sw) 9 64 5 = some (I 64 5) := gI_W (by decide)
theorem ss_64_5 {x : Int32} : sI (Wd A I sw) 9 64 5 x = some (Wd A (up2 I 64 5 x) sw) := sI_W (by decide)
theorem gg_64_6 : gI (Wd A I sw) 9 64 6 = some (I 64 6) := gI_W (by decide)
theorem ss_64_6 {x : Int32} : sI (Wd A I sw) 9 64 6 x = some (Wd A (up2 I 64 6 x) sw) := sI_W (by decide)
theorem gg_64_7 : gI (Wd A I sw) 9 64 7 = some (I 64 7) := gI_W (by decide)
theorem ss_64_7 {x : Int32} : sI (Wd A I sw) 9 64 7 x = some (Wd A (up2 I 64 7 x) sw) := sI_W (by decide)
theorem gg_64_8 : gI (Wd A I sw) 9 64 8 = some (I 64 8) := gI_W (by decide)
theorem ss_64_8 {x : Int32} : sI (Wd A I sw) 9 64 8 x = some (Wd A (up2 I 64 8 x) sw) := sI_W (by decide)
theorem gg_64_9 : gI (Wd A I sw) 9 64 9 = some (I 64 9) := gI_W (by decide)
theorem ss_64_9 {x : Int32} : sI (Wd A I sw) 9 64 9 x = some (Wd A (up2 I 64 9 x) sw) := sI_W (by decide)
theorem gg_64_10 : gI (Wd A I sw) 9 64 10 = some (I 64 10) := gI_W (by decide)
theorem ss_64_10 {x : Int32} : sI (Wd A I sw) 9 64 10 x = some (Wd A (up2 I 64 10 x) sw) := sI_W (by decide)
theorem rr_64_11 : gR (Wd A I sw) 9 64 11 = some 69 := by
  rw [gR_W (by decide)]
  cases sw <;> rfl
theorem rr_64_12 : gR (Wd A I sw) 9 64 12 = some 70 := by
  rw [gR_W (by decide)]
  cases sw <;> rfl
theorem rr_64_13 : gR (Wd A I sw) 9 64 13 = some 71 := by
  rw [gR_W (by decide)]
  cases sw <;> rfl
theorem rr_64_14 : gR (Wd A I sw) 9 64 14 = some 72 := by
  rw [gR_W (by decide)]
  cases sw <;> rfl
theorem rr_64_15 : gR (Wd A I sw) 9 64 15 = some 73 := by
  rw [gR_W (by decide)]
  cases sw <;> rfl
theorem rr_64_16 : gR (Wd A I sw) 9 64 16 = some 74 := by
  rw [gR_W (by decide)]
  cases sw <;> rfl
theorem rr_64_17 : gR (Wd A I sw) 9 64 17 = some 75 := by
  rw [gR_W (by decide)]
  cases sw <;> rfl
theorem rr_64_18 : gR (Wd A I sw) 9 64 18 = some 76 := by
  rw [gR_W (by decide)]
  cases sw <;> rfl
theorem rr_64_19 : gR (Wd A I sw) 9 64 19 = some 77 := by
  rw [gR_W (by decide)]
  cases sw <;> rfl
theorem gg_64_20 : gI (Wd A I sw) 9 64 20 = some (I 64 20) := gI_W (by decide)
theorem ss_64_20 {x : Int32} : sI (Wd A I sw) 9 64 20 x = some (Wd A (up2 I 64 20 x) sw) := sI_W (by decide)
theorem gg_64_21 : gI (Wd A I sw) 9 64 21 = some (I 64 21) := gI_W (by decide)
theorem ss_64_21 {x : Int32} : sI (Wd A I sw) 9 64 21 x = some (Wd A (up2 I 64 21 x) sw) := sI_W (by decide)
theorem rr_64_22 : gR (Wd A I sw) 9 64 22 = some 78 := by
  rw [gR_W (by decide)]
  cases sw <;> rfl
theorem rr_64_23 : gR (Wd A I sw) 9 64 23 = some 79 := by
  rw [gR_W (by decide)]
  cases sw <;> rfl
theorem rr_64_24 : gR (Wd A I sw) 9 64 24 = some 80 := by
  rw [gR_W (by decide)]
  cases sw <;> rfl
theorem gg_64_25 : gI (Wd A I sw) 9 64 25 = some (I 64 25) := gI_W (by decide)
theorem ss_64_25 {x : Int32} : sI (Wd A I sw) 9 64 25 x = some (Wd A (up2 I 64 25 x) sw) := sI_W (by decide)
theorem gg_64_26 : gI (Wd A I sw) 9 64 26 = some (I 64 26) := gI_W (by decide)
theorem ss_64_26 {x : Int32} : sI (Wd A I sw) 9 64 26 x = some (Wd A (up2 I 64 26 x) sw) := sI_W (by decide)
theorem ga_2 {i : Nat} (h : i < 60) : gA (Wd A I sw) false 2 (nI i) = some (A 2 i) := gA_W (n := 60) (by decide) h (by decide)
theorem sa_2 {i : Nat} {x : Int32} (h : i < 60) : sA (Wd A I sw) 2 (nI i) x = some (Wd (up2 A 2 i x) I sw) := sA_W (n := 60) (by decide) h (by decide)
theorem ga_5 {i : Nat} (h : i < 12) : gA (Wd A I sw) false 5 (nI i) = some (A 5 i) := gA_W (n := 12) (by decide) h (by decide)
theorem sa_5 {i : Nat} {x : Int32} (h : i < 12) : sA (Wd A I sw) 5 (nI i) x = some (Wd (up2 A 5 i x) I sw) := sA_W (n := 12) (by decide) h (by decide)
theorem ga_6 {i : Nat} (h : i < 12) : gA (Wd A I sw) false 6 (nI i) = some (A 6 i) := gA_W (n := 12) (by decide) h (by decide)
theorem sa_6 {i : Nat} {x : Int32} (h : i < 12) : sA (Wd A I sw) 6 (nI i) x = some (Wd (up2 A 6 i x) I sw) := sA_W (n := 12) (by decide) h (by decide)
theorem ga_8 {i : Nat} (h : i < 12) : gA (Wd A I sw) false 8 (nI i) = some (A 8 i) := gA_W (n := 12) (by decide) h (by decide)
theorem sa_8 {i : Nat} {x : Int32} (h : i < 12) : sA (Wd A I sw) 8 (nI i) x = some (Wd (up2 A 8 i x) I sw) := sA_W (n := 12) (by decide) h (by decide)
theorem ga_9 {i : Nat} (h : i < 12) : gA (Wd A I sw) false 9 (nI i) = some (A 9 i) := gA_W (n := 12) (by decide) h (by decide)
theorem sa_9 {i : Nat} {x : Int32} (h : i < 12) : sA (Wd A I sw) 9 (nI i) x = some (Wd (up2 A 9 i x) I sw) := sA_W (n := 12) (by decide) h (by decide)
theorem ga_11 {i : Nat} (h : i < 12) : gA (Wd A I sw) false 11 (nI i) = some (A 11 i) := gA_W (n := 12) (by decide) h (by decide)
theorem sa_11 {i : Nat} {x : Int32} (h : i < 12) : sA (Wd A I sw) 11 (nI i) x = some (Wd (up2 A 11 i x) I sw) := sA_W (n := 12) (by decide) h (by decide)
theorem ga_12 {i : Nat} (h : i < 12) : gA (Wd A I sw) false 12 (nI i) = some (A 12 i) := gA_W (n := 12) (by decide) h (by decide)
theorem sa_12 {i : Nat} {x : Int32} (h : i < 12) : sA (Wd A I sw) 12 (nI i) x = some (Wd (up2 A 12 i x) I sw) := sA_W (n := 12) (by decide) h (by decide)
theorem ga_15 {i : Nat} (h : i < 12) : gA (Wd A I sw) false 15 (nI i) = some (A 15 i) := gA_W (n := 12) (by decide) h (by decide)
theorem sa_15 {i : Nat} {x : Int32} (h : i < 12) : sA (Wd A I sw) 15 (nI i) x = some (Wd (up2 A 15 i x) I sw) := sA_W (n := 12) (by decide) h (by decide)
theorem ga_16 {i : Nat} (h : i < 12) : gA (Wd A I sw) false 16 (nI i) = some (A 16 i) := gA_W (n := 12) (by decide) h (by decide)
theorem sa_16 {i : Nat} {x : Int32} (h : i < 12) : sA (Wd A I sw) 16 (nI i) x = some (Wd (up2 A 16 i x) I sw) := sA_W (n := 12) (by decide) h (by decide)
theorem ga_18 {i : Nat} (h : i < 12) : gA (Wd A I sw) false 18 (nI i) = some (A 18 i) := gA_W (n := 12) (by decide) h (by decide)
theorem sa_18 {i : Nat} {x : Int32} (h : i < 12) : sA (Wd A I sw) 18 (nI i) x = some (Wd (up2 A 18 i x) I sw) := sA_W (n := 12) (by decide) h (by decide)
theorem ga_19 {i : Nat} (h : i < 12) : gA (Wd A I sw) false 19 (nI i) = some (A 19 i) := gA_W (n := 12) (by decide) h (by decide)
theorem sa_19 {i : Nat} {x : Int32} (h : i < 12) : sA (Wd A I sw) 19 (nI i) x = some (Wd (up2 A 19 i x) I sw) := sA_W (n := 12) (by decide) h (by decide)
theorem ga_21 {i : Nat} (h : i < 12) : gA (Wd A I sw) false 21 (nI i) = some (A 21 i) := gA_W (n := 12) (by decide) h (by decide)
theorem sa_21 {i : Nat} {x : Int32} (h : i < 12) : sA (Wd A I sw) 21 (nI i) x = some (Wd (up2 A 21 i x) I sw) := sA_W (n := 12) (by decide) h (by decide)
theorem ga_22 {i : Nat} (h : i < 12) : gA (Wd A I sw) false 22 (nI i) = some (A 22 i) := gA_W (n := 12) (by decide) h (by decide)
theorem sa_22 {i : Nat} {x : Int32} (h : i < 12) : sA (Wd A I sw) 22 (nI i) x = some (Wd (up2 A 22 i x) I sw) := sA_W (n := 12) (by decide) h (by decide)
theorem ga_25 {i : Nat} (h : i < 12) : gA (Wd A I sw) false 25 (nI i) = some (A 25 i) := gA_W (n := 12) (by decide) h (by decide)
theorem sa_25 {i : Nat} {x : Int32} (h : i < 12) : sA (Wd A I sw) 25 (nI i) x = some (Wd (up2 A 25 i x) I sw) := sA_W (n := 12) (by decide) h (by decide)
theorem ga_26 {i : Nat} (h : i < 12) : gA (Wd A I sw) false 26 (nI i) = some (A 26 i) := gA_W (n := 12) (by decide) h (by decide)
theorem sa_26 {i : Nat} {x : Int32} (h : i < 12) : sA (Wd A I sw) 26 (nI i) x = some (Wd (up2 A 26 i x) I sw) := sA_W (n := 12) (by decide) h (by decide)
theorem ga_28 {i : Nat} (h : i < 12) : gA (Wd A I sw) false 28 (nI i) = some (A 28 i) := gA_W (n := 12) (by decide) h (by decide)
theorem sa_28 {i : Nat} {x : Int32} (h : i < 12) : sA (Wd A I sw) 28 (nI i) x = some (Wd (up2 A 28 i x) I sw) := sA_W (n := 12) (by decide) h (by decide)
theorem ga_29 {i : Nat} (h : i < 12) : gA (Wd A I sw) false 29 (nI i) = some (A 29 i) := gA_W (n := 12) (by decide) h (by decide)
theorem sa_29 {i : Nat} {x : Int32} (h : i < 12) : sA (Wd A I sw) 29 (nI i) x = some (Wd (up2 A 29 i x) I sw) := sA_W (n := 12) (by decide) h (by decide)
theorem ga_31 {i : Nat} (h : i < 12) : gA (Wd A I sw) false 31 (nI i) = some (A 31 i) := gA_W (n := 12) (by decide) h (by decide)
theorem sa_31 {i : Nat} {x : Int32} (h : i < 12) : sA (Wd A I sw) 31 (nI i) x = some (Wd (up2 A 31 i x) I sw) := sA_W (n := 12) (by decide) h (by decide)
theorem ga_32 {i : Nat} (h : i < 12) : gA (Wd A I sw) false 32 (nI i) = some (A 32 i) := gA_W (n := 12) (by decide) h (by decide)
theorem sa_32 {i : Nat} {x : Int32} (h : i < 12) : sA (Wd A I sw) 32 (nI i) x = some (Wd (up2 A 32 i x) I sw) := sA_W (n := 12) (by decide) h (by decide)
theorem ga_33 {i : Nat} (h : i < 2) : gA (Wd A I sw) true 33 (nI i) = some (A 33 i) := gA_W (n := 2) (by decide) h (by decide)
theorem sa_33 {i : Nat} {x : Int32} (h : i < 2) : sZ (Wd A I sw) 33 (nI i) x = some (Wd (up2 A 33 i (vp_nar .boolean x)) I sw) := sZ_W (n := 2) (by decide) h (by decide)
theorem ga_36 {i : Nat} (h : i < 12) : gA (Wd A I sw) false 36 (nI i) = some (A 36 i) := gA_W (n := 12) (by decide) h (by decide)
theorem sa_36 {i : Nat} {x : Int32} (h : i < 12) : sA (Wd A I sw) 36 (nI i) x = some (Wd (up2 A 36 i x) I sw) := sA_W (n := 12) (by decide) h (by decide)
theorem ga_37 {i : Nat} (h : i < 12) : gA (Wd A I sw) false 37 (nI i) = some (A 37 i) := gA_W (n := 12) (by decide) h (by decide)
theorem sa_37 {i : Nat} {x : Int32} (h : i < 12) : sA (Wd A I sw) 37 (nI i) x = some (Wd (up2 A 37 i x) I sw) := sA_W (n := 12) (by decide) h (by decide)
theorem ga_38 {i : Nat} (h : i < 12) : gA (Wd A I sw) false 38 (nI i) = some (A 38 i) := gA_W (n := 12) (by decide) h (by decide)
theorem sa_38 {i : Nat} {x : Int32} (h : i < 12) : sA (Wd A I sw) 38 (nI i) x = some (Wd (up2 A 38 i x) I sw) := sA_W (n := 12) (by decide) h (by decide)
theorem ga_39 {i : Nat} (h : i < 144) : gA (Wd A I sw) false 39 (nI i) = some (A 39 i) := gA_W (n := 144) (by decide) h (by decide)
theorem sa_39 {i : Nat} {x : Int32} (h : i < 144) : sA (Wd A I sw) 39 (nI i) x = some (Wd (up2 A 39 i x) I sw) := sA_W (n := 144) (by decide) h (by decide)
theorem ga_41 {i : Nat} (h : i < 12) : gA (Wd A I sw) false 41 (nI i) = some (A 41 i) := gA_W (n := 12) (by decide) h (by decide)
theorem sa_41 {i : Nat} {x : Int32} (h : i < 12) : sA (Wd A I sw) 41 (nI i) x = some (Wd (up2 A 41 i x) I sw) := sA_W (n := 12) (by decide) h (by decide)
theorem ga_42 {i : Nat} (h : i < 12) : gA (Wd A I sw) false 42 (nI i) = some (A 42 i) := gA_W (n := 12) (by decide) h (by decide)
theorem sa_42 {i : Nat} {x : Int32} (h : i < 12) : sA (Wd A I sw) 42 (nI i) x = some (Wd (up2 A 42 i x) I sw) := sA_W (n := 12) (by decide) h (by decide)
theorem ga_43 {i : Nat} (h : i < 12) : gA (Wd A I sw) true 43 (nI i) = some (A 43 i) := gA_W (n := 12) (by decide) h (by decide)
theorem sa_43 {i : Nat} {x : Int32} (h : i < 12) : sZ (Wd A I sw) 43 (nI i) x = some (Wd (up2 A 43 i (vp_nar .boolean x)) I sw) := sZ_W (n := 12) (by decide) h (by decide)
theorem ga_46 {i : Nat} (h : i < 12) : gA (Wd A I sw) false 46 (nI i) = some (A 46 i) := gA_W (n := 12) (by decide) h (by decide)
theorem sa_46 {i : Nat} {x : Int32} (h : i < 12) : sA (Wd A I sw) 46 (nI i) x = some (Wd (up2 A 46 i x) I sw) := sA_W (n := 12) (by decide) h (by decide)
theorem ga_47 {i : Nat} (h : i < 12) : gA (Wd A I sw) false 47 (nI i) = some (A 47 i) := gA_W (n := 12) (by decide) h (by decide)
theorem sa_47 {i : Nat} {x : Int32} (h : i < 12) : sA (Wd A I sw) 47 (nI i) x = some (Wd (up2 A 47 i x) I sw) := sA_W (n := 12) (by decide) h (by decide)
theorem ga_48 {i : Nat} (h : i < 12) : gA (Wd A I sw) false 48 (nI i) = some (A 48 i) := gA_W (n := 12) (by decide) h (by decide)
theorem sa_48 {i : Nat} {x : Int32} (h : i < 12) : sA (Wd A I sw) 48 (nI i) x = some (Wd (up2 A 48 i x) I sw) := sA_W (n := 12) (by decide) h (by decide)
theorem ga_49 {i : Nat} (h : i < 144) : gA (Wd A I sw) false 49 (nI i) = some (A 49 i) := gA_W (n := 144) (by decide) h (by decide)
theorem sa_49 {i : Nat} {x : Int32} (h : i < 144) : sA (Wd A I sw) 49 (nI i) x = some (Wd (up2 A 49 i x) I sw) := sA_W (n := 144) (by decide) h (by decide)
theorem ga_51 {i : Nat} (h : i < 12) : gA (Wd A I sw) false 51 (nI i) = some (A 51 i) := gA_W (n := 12) (by decide) h (by decide)
theorem sa_51 {i : Nat} {x : Int32} (h : i < 12) : sA (Wd A I sw) 51 (nI i) x = some (Wd (up2 A 51 i x) I sw) := sA_W (n := 12) (by decide) h (by decide)
theorem ga_52 {i : Nat} (h : i < 12) : gA (Wd A I sw) false 52 (nI i) = some (A 52 i) := gA_W (n := 12) (by decide) h (by decide)
theorem sa_52 {i : Nat} {x : Int32} (h : i < 12) : sA (Wd A I sw) 52 (nI i) x = some (Wd (up2 A 52 i x) I sw) := sA_W (n := 12) (by decide) h (by decide)
theorem ga_53 {i : Nat} (h : i < 12) : gA (Wd A I sw) true 53 (nI i) = some (A 53 i) := gA_W (n := 12) (by decide) h (by decide)
theorem sa_53 {i : Nat} {x : Int32} (h : i < 12) : sZ (Wd A I sw) 53 (nI i) x = some (Wd (up2 A 53 i (vp_nar .boolean x)) I sw) := sZ_W (n := 12) (by decide) h (by decide)
theorem ga_55 {i : Nat} (h : i < 25) : gA (Wd A I sw) false 55 (nI i) = some (A 55 i) := gA_W (n := 25) (by decide) h (by decide)
theorem sa_55 {i : Nat} {x : Int32} (h : i < 25) : sA (Wd A I sw) 55 (nI i) x = some (Wd (up2 A 55 i x) I sw) := sA_W (n := 25) (by decide) h (by decide)
theorem ga_57 {i : Nat} (h : i < 36) : gA (Wd A I sw) false 57 (nI i) = some (A 57 i) := gA_W (n := 36) (by decide) h (by decide)
theorem sa_57 {i : Nat} {x : Int32} (h : i < 36) : sA (Wd A I sw) 57 (nI i) x = some (Wd (up2 A 57 i x) I sw) := sA_W (n := 36) (by decide) h (by decide)
theorem ga_58 {i : Nat} (h : i < 36) : gA (Wd A I sw) false 58 (nI i) = some (A 58 i) := gA_W (n := 36) (by decide) h (by decide)
theorem sa_58 {i : Nat} {x : Int32} (h : i < 36) : sA (Wd A I sw) 58 (nI i) x = some (Wd (up2 A 58 i x) I sw) := sA_W (n := 36) (by decide) h (by decide)
theorem ga_59 {i : Nat} (h : i < 36) : gA (Wd A I sw) false 59 (nI i) = some (A 59 i) := gA_W (n := 36) (by decide) h (by decide)
theorem sa_59 {i : Nat} {x : Int32} (h : i < 36) : sA (Wd A I sw) 59 (nI i) x = some (Wd (up2 A 59 i x) I sw) := sA_W (n := 36) (by decide) h (by decide)
theorem ga_60 {i : Nat} (h : i < 36) : gA (Wd A I sw) false 60 (nI i) = some (A 60 i) := gA_W (n := 36) (by decide) h (by decide)
theorem sa_60 {i : Nat} {x : Int32} (h : i < 36) : sA (Wd A I sw) 60 (nI i) x = some (Wd (up2 A 60 i x) I sw) := sA_W (n := 36) (by decide) h (by decide)
theorem ga_61 {i : Nat} (h : i < 36) : gA (Wd A I sw) false 61 (nI i) = some (A 61 i) := gA_W (n := 36) (by decide) h (by decide)
theorem sa_61 {i : Nat} {x : Int32} (h : i < 36) : sA (Wd A I sw) 61 (nI i) x = some (Wd (up2 A 61 i x) I sw) := sA_W (n := 36) (by decide) h (by decide)
theorem ga_62 {i : Nat} (h : i < 36) : gA (Wd A I sw) false 62 (nI i) = some (A 62 i) := gA_W (n := 36) (by decide) h (by decide)
theorem sa_62 {i : Nat} {x : Int32} (h : i < 36) : sA (Wd A I sw) 62 (nI i) x = some (Wd (up2 A 62 i x) I sw) := sA_W (n := 36) (by decide) h (by decide)
theorem ga_63 {i : Nat} (h : i < 12) : gA (Wd A I sw) false 63 (nI i) = some (A 63 i) := gA_W (n := 12) (by decide) h (by decide)
theorem sa_63 {i : Nat} {x : Int32} (h : i < 12) : sA (Wd A I sw) 63 (nI i) x = some (Wd (up2 A 63 i x) I sw) := sA_W (n := 12) (by decide) h (by decide)
theorem ga_65 {i : Nat} (h : i < 36) : gA (Wd A I sw) false 65 (nI i) = some (A 65 i) := gA_W (n := 36) (by decide) h (by decide)
theorem sa_65 {i : Nat} {x : Int32} (h : i < 36) : sA (Wd A I sw) 65 (nI i) x = some (Wd (up2 A 65 i x) I sw) := sA_W (n := 36) (by decide) h (by decide)
theorem ga_66 {i : Nat} (h : i < 36) : gA (Wd A I sw) false 66 (nI i) = some (A 66 i) := gA_W (n := 36) (by decide) h (by decide)
theorem sa_66 {i : Nat} {x : Int32} (h : i < 36) : sA (Wd A I sw) 66 (nI i) x = some (Wd (up2 A 66 i x) I sw) := sA_W (n := 36) (by decide) h (by decide)
theorem ga_67 {i : Nat} (h : i < 3) : gA (Wd A I sw) false 67 (nI i) = some (A 67 i) := gA_W (n := 3) (by decide) h (by decide)
theorem sa_67 {i : Nat} {x : Int32} (h : i < 3) : sA (Wd A I sw) 67 (nI i) x = some (Wd (up2 A 67 i x) I sw) := sA_W (n := 3) (by decide) h (by decide)
theorem ga_68 {i : Nat} (h : i < 60) : gA (Wd A I sw) false 68 (nI i) = some (A 68 i) := gA_W (n := 60) (by decide) h (by decide)
theorem sa_68 {i : Nat} {x : Int32} (h : i < 60) : sA (Wd A I sw) 68 (nI i) x = some (Wd (up2 A 68 i x) I sw) := sA_W (n := 60) (by decide) h (by decide)
theorem ga_69 {i : Nat} (h : i < 36) : gA (Wd A I sw) false 69 (nI i) = some (A 69 i) := gA_W (n := 36) (by decide) h (by decide)
theorem sa_69 {i : Nat} {x : Int32} (h : i < 36) : sA (Wd A I sw) 69 (nI i) x = some (Wd (up2 A 69 i x) I sw) := sA_W (n := 36) (by decide) h (by decide)
theorem ga_70 {i : Nat} (h : i < 36) : gA (Wd A I sw) false 70 (nI i) = some (A 70 i) := gA_W (n := 36) (by decide) h (by decide)
theorem sa_70 {i : Nat} {x : Int32} (h : i < 36) : sA (Wd A I sw) 70 (nI i) x = some (Wd (up2 A 70 i x) I sw) := sA_W (n := 36) (by decide) h (by decide)
theorem ga_71 {i : Nat} (h : i < 36) : gA (Wd A I sw) false 71 (nI i) = some (A 71 i) := gA_W (n := 36) (by decide) h (by decide)
theorem sa_71 {i : Nat} {x : Int32} (h : i < 36) : sA (Wd A I sw) 71 (nI i) x = some (Wd (up2 A 71 i x) I sw) := sA_W (n := 36) (by decide) h (by decide)
theorem ga_72 {i : Nat} (h : i < 1335) : gA (Wd A I sw) false 72 (nI i) = some (A 72 i) := gA_W (n := 1335) (by decide) h (by decide)
theorem sa_72 {i : Nat} {x : Int32} (h : i < 1335) : sA (Wd A I sw) 72 (nI i) x = some (Wd (up2 A 72 i x) I sw) := sA_W (n := 1335) (by decide) h (by decide)
theorem ga_73 {i : Nat} (h : i < 445) : gA (Wd A I sw) true 73 (nI i) = some (A 73 i) := gA_W (n := 445) (by decide) h (by decide)
theorem sa_73 {i : Nat} {x : Int32} (h : i < 445) : sZ (Wd A I sw) 73 (nI i) x = some (Wd (up2 A 73 i (vp_nar .boolean x)) I sw) := sZ_W (n := 445) (by decide) h (by decide)
theorem ga_74 {i : Nat} (h : i < 36) : gA (Wd A I sw) false 74 (nI i) = some (A 74 i) := gA_W (n := 36) (by decide) h (by decide)
theorem sa_74 {i : Nat} {x : Int32} (h : i < 36) : sA (Wd A I sw) 74 (nI i) x = some (Wd (up2 A 74 i x) I sw) := sA_W (n := 36) (by decide) h (by decide)
theorem ga_75 {i : Nat} (h : i < 36) : gA (Wd A I sw) false 75 (nI i) = some (A 75 i) := gA_W (n := 36) (by decide) h (by decide)
theorem sa_75 {i : Nat} {x : Int32} (h : i < 36) : sA (Wd A I sw) 75 (nI i) x = some (Wd (up2 A 75 i x) I sw) := sA_W (n := 36) (by decide) h (by decide)
theorem ga_76 {i : Nat} (h : i < 36) : gA (Wd A I sw) false 76 (nI i) = some (A 76 i) := gA_W (n := 36) (by decide) h (by decide)
theorem sa_76 {i : Nat} {x : Int32} (h : i < 36) : sA (Wd A I sw) 76 (nI i) x = some (Wd (up2 A 76 i x) I sw) := sA_W (n := 36) (by decide) h (by decide)
theorem ga_77 {i : Nat} (h : i < 36) : gA (Wd A I sw) false 77 (nI i) = some (A 77 i) := gA_W (n := 36) (by decide) h (by decide)
theorem sa_77 {i : Nat} {x : Int32} (h : i < 36) : sA (Wd A I sw) 77 (nI i) x = some (Wd (up2 A 77 i x) I sw) := sA_W (n := 36) (by decide) h (by decide)
theorem ga_78 {i : Nat} (h : i < 12) : gA (Wd A I sw) true 78 (nI i) = some (A 78 i) := gA_W (n := 12) (by decide) h (by decide)
theorem sa_78 {i : Nat} {x : Int32} (h : i < 12) : sZ (Wd A I sw) 78 (nI i) x = some (Wd (up2 A 78 i (vp_nar .boolean x)) I sw) := sZ_W (n := 12) (by decide) h (by decide)
theorem ga_79 {i : Nat} (h : i < 152) : gA (Wd A I sw) false 79 (nI i) = some (A 79 i) := gA_W (n := 152) (by decide) h (by decide)
theorem sa_79 {i : Nat} {x : Int32} (h : i < 152) : sA (Wd A I sw) 79 (nI i) x = some (Wd (up2 A 79 i x) I sw) := sA_W (n := 152) (by decide) h (by decide)
theorem ga_80 {i : Nat} (h : i < 2) : gA (Wd A I sw) true 80 (nI i) = some (A 80 i) := gA_W (n := 2) (by decide) h (by decide)
theorem sa_80 {i : Nat} {x : Int32} (h : i < 2) : sZ (Wd A I sw) 80 (nI i) x = some (Wd (up2 A 80 i (vp_nar .boolean x)) I sw) := sZ_W (n := 2) (by decide) h (by decide)
theorem la_55 : lA (Wd A I sw) 55 = some (nI 25) := lA_W (z := false) (by decide)
def isP (r : Nat) : Bool := r == 35 || r == 45
theorem isP_cases {r : Nat} (h : isP r = true) : r = 35 ∨ r = 45 := by simpa [isP] using h
theorem P_ck {α : Type} {x : Option α} {r : Nat} (h : isP r = true) : ck (Wd A I sw) 5 r x = x := ck_W (by rcases isP_cases h with rfl | rfl <;> decide)
theorem P_r0 {r : Nat} (h : isP r = true) : gR (Wd A I sw) 5 r 0 = some (r + 1) := by
  rw [gR_W (by rcases isP_cases h with rfl | rfl <;> decide)]
  rcases isP_cases h with rfl | rfl <;> cases sw <;> rfl
theorem P_g0 {r i : Nat} (h : isP r = true) (hi : i < 12) : gA (Wd A I sw) false (r + 1) (nI i) = some (A (r + 1) i) := gA_W (n := 12) (by rcases isP_cases h with rfl | rfl <;> decide) hi (by decide)
theorem P_s0 {r i : Nat} {x : Int32} (h : isP r = true) (hi : i < 12) : sA (Wd A I sw) (r + 1) (nI i) x = some (Wd (up2 A (r + 1) i x) I sw) := sA_W (n := 12) (by rcases isP_cases h with rfl | rfl <;> decide) hi (by decide)
theorem P_r1 {r : Nat} (h : isP r = true) : gR (Wd A I sw) 5 r 1 = some (r + 2) := by
  rw [gR_W (by rcases isP_cases h with rfl | rfl <;> decide)]
  rcases isP_cases h with rfl | rfl <;> cases sw <;> rfl
theorem P_g1 {r i : Nat} (h : isP r = true) (hi : i < 12) : gA (Wd A I sw) false (r + 2) (nI i) = some (A (r + 2) i) := gA_W (n := 12) (by rcases isP_cases h with rfl | rfl <;> decide) hi (by decide)
theorem P_s1 {r i : Nat} {x : Int32} (h : isP r = true) (hi : i < 12) : sA (Wd A I sw) (r + 2) (nI i) x = some (Wd (up2 A (r + 2) i x) I sw) := sA_W (n := 12) (by rcases isP_cases h with rfl | rfl <;> decide) hi (by decide)
theorem P_r2 {r : Nat} (h : isP r = true) : gR (Wd A I sw) 5 r 2 = some (r + 3) := by
  rw [gR_W (by rcases isP_cases h with rfl | rfl <;> decide)]
  rcases isP_cases h with rfl | rfl <;> cases sw <;> rfl
theorem P_g2 {r i : Nat} (h : isP r = true) (hi : i < 12) : gA (Wd A I sw) false (r + 3) (nI i) = some (A (r + 3) i) := gA_W (n := 12) (by rcases isP_cases h with rfl | rfl <;> decide) hi (by decide)
theorem P_s2 {r i : Nat} {x : Int32} (h : isP r = true) (hi : i < 12) : sA (Wd A I sw) (r + 3) (nI i) x = some (Wd (up2 A (r + 3) i x) I sw) := sA_W (n := 12) (by rcases isP_cases h with rfl | rfl <;> decide) hi (by decide)
theorem P_r3 {r : Nat} (h : isP r = true) : gR (Wd A I sw) 5 r 3 = some (r + 4) := by
  rw [gR_W (by rcases isP_cases h with rfl | rfl <;> decide)]
  rcases isP_cases h with rfl | rfl <;> cases sw <;> rfl
theorem P_g3 {r i : Nat} (h : isP r = true) (hi : i < 144) : gA (Wd A I sw) false (r + 4) (nI i) = some (A (r + 4) i) := gA_W (n := 144) (by rcases isP_cases h with rfl | rfl <;> decide) hi (by decide)
theorem P_s3 {r i : Nat} {x : Int32} (h : isP r = true) (hi : i < 144) : sA (Wd A I sw) (r + 4) (nI i) x = some (Wd (up2 A (r + 4) i x) I sw) := sA_W (n := 144) (by rcases isP_cases h with rfl | rfl <;> decide) hi (by decide)
def isM (r : Nat) : Bool := r == 40 || r == 50
theorem isM_cases {r : Nat} (h : isM r = true) : r = 40 ∨ r = 50 := by simpa [isM] using h
theorem M_ck {α : Type} {x : Option α} {r : Nat} (h : isM r = true) : ck (Wd A I sw) 3 r x = x := ck_W (by rcases isM_cases h with rfl | rfl <;> decide)
theorem M_r0 {r : Nat} (h : isM r = true) : gR (Wd A I sw) 3 r 0 = some (r + 1) := by
  rw [gR_W (by rcases isM_cases h with rfl | rfl <;> decide)]
  rcases isM_cases h with rfl | rfl <;> cases sw <;> rfl
theorem M_g0 {r i : Nat} (h : isM r = true) (hi : i < 12) : gA (Wd A I sw) false (r + 1) (nI i) = some (A (r + 1) i) := gA_W (n := 12) (by rcases isM_cases h with rfl | rfl <;> decide) hi (by decide)
theorem M_s0 {r i : Nat} {x : Int32} (h : isM r = true) (hi : i < 12) : sA (Wd A I sw) (r + 1) (nI i) x = some (Wd (up2 A (r + 1) i x) I sw) := sA_W (n := 12) (by rcases isM_cases h with rfl | rfl <;> decide) hi (by decide)
theorem M_r1 {r : Nat} (h : isM r = true) : gR (Wd A I sw) 3 r 1 = some (r + 2) := by
  rw [gR_W (by rcases isM_cases h with rfl | rfl <;> decide)]
  rcases isM_cases h with rfl | rfl <;> cases sw <;> rfl
theorem M_g1 {r i : Nat} (h : isM r = true) (hi : i < 12) : gA (Wd A I sw) false (r + 2) (nI i) = some (A (r + 2) i) := gA_W (n := 12) (by rcases isM_cases h with rfl | rfl <;> decide) hi (by decide)
theorem M_s1 {r i : Nat} {x : Int32} (h : isM r = true) (hi : i < 12) : sA (Wd A I sw) (r + 2) (nI i) x = some (Wd (up2 A (r + 2) i x) I sw) := sA_W (n := 12) (by rcases isM_cases h with rfl | rfl <;> decide) hi (by decide)
theorem M_r2 {r : Nat} (h : isM r = true) : gR (Wd A I sw) 3 r 2 = some (r + 3) := by
  rw [gR_W (by rcases isM_cases h with rfl | rfl <;> decide)]
  rcases isM_cases h with rfl | rfl <;> cases sw <;> rfl
theorem M_g2 {r i : Nat} (h : isM r = true) (hi : i < 12) : gA (Wd A I sw) true (r + 3) (nI i) = some (A (r + 3) i) := gA_W (n := 12) (by rcases isM_cases h with rfl | rfl <;> decide) hi (by decide)
theorem M_s2 {r i : Nat} {x : Int32} (h : isM r = true) (hi : i < 12) : sZ (Wd A I sw) (r + 3) (nI i) x = some (Wd (up2 A (r + 3) i (vp_nar .boolean x)) I sw) := sZ_W (n := 12) (by rcases isM_cases h with rfl | rfl <;> decide) hi (by decide)
theorem M_n {r : Nat} (h : isM r = true) : gI (Wd A I sw) 3 r 3 = some (I r 3) := gI_W (by rcases isM_cases h with rfl | rfl <;> decide)
theorem M_sn {r : Nat} {x : Int32} (h : isM r = true) : sI (Wd A I sw) 3 r 3 x = some (Wd A (up2 I r 3 x) sw) := sI_W (by rcases isM_cases h with rfl | rfl <;> decide)
end FD
