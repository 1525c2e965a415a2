-- ===== the heap behind the constructors: its shape =====
abbrev Shp : Type := (Bool × Nat) ⊕ (Nat × List Bool)
def shT : List Shp := [.inr (8, [true, true, true, true, true, true, true, true, true, false]), .inr (4, [true, false]), .inl (false, 60), .inr (0, [true, true, true, false]), .inr (7, [true, true, false]), .inl (false, 12), .inl (false, 12), .inr (7, [true, true, false]), .inl (false, 12), .inl (false, 12), .inr (7, [true, true, false]), .inl (false, 12), .inl (false, 12), .inr (0, [true, true, true, false]), .inr (7, [true, true, false]), .inl (false, 12), .inl (false, 12), .inr (7, [true, true, false]), .inl (false, 12), .inl (false, 12), .inr (7, [true, true, false]), .inl (false, 12), .inl (false, 12), .inr (0, [true, true, true, false]), .inr (7, [true, true, false]), .inl (false, 12), .inl (false, 12), .inr (7, [true, true, false]), .inl (false, 12), .inl (false, 12), .inr (7, [true, true, false]), .inl (false, 12), .inl (false, 12), .inl (true, 2), .inr (6, [true, true]), .inr (5, [true, true, true, true]), .inl (false, 12), .inl (false, 12), .inl (false, 12), .inl (false, 144), .inr (3, [true, true, true, false]), .inl (false, 12), .inl (false, 12), .inl (true, 12), .inr (6, [true, true]), .inr (5, [true, true, true, true]), .inl (false, 12), .inl (false, 12), .inl (false, 12), .inl (false, 144), .inr (3, [true, true, true, false]), .inl (false, 12), .inl (false, 12), .inl (true, 12), .inr (1, [true, false]), .inl (false, 25), .inr (2, [true, true, true, true, false, true, true, false, true]), .inl (false, 36), .inl (false, 36), .inl (false, 36), .inl (false, 36), .inl (false, 36), .inl (false, 36), .inl (false, 12), .inr (9, [true, true, true, false, true, false, false, false, false, false, false, true, true, true, true, true, true, true, true, true, false, false, true, true, true, false, false]), .inl (false, 36), .inl (false, 36), .inl (false, 3), .inl (false, 60), .inl (false, 36), .inl (false, 36), .inl (false, 36), .inl (false, 1335), .inl (true, 445), .inl (false, 36), .inl (false, 36), .inl (false, 36), .inl (false, 36), .inl (true, 12), .inl (false, 152), .inl (true, 2)]
def rfT : List (List Nat) := [[1, 3, 13, 23, 33, 34, 44, 54, 56, 0], [2, 0], [], [4, 7, 10, 0], [5, 6, 0], [], [], [8, 9, 0], [], [], [11, 12, 0], [], [], [14, 17, 20, 0], [15, 16, 0], [], [], [18, 19, 0], [], [], [21, 22, 0], [], [], [24, 27, 30, 0], [25, 26, 0], [], [], [28, 29, 0], [], [], [31, 32, 0], [], [], [], [35, 40], [36, 37, 38, 39], [], [], [], [], [41, 42, 43, 0], [], [], [], [45, 50], [46, 47, 48, 49], [], [], [], [], [51, 52, 53, 0], [], [], [], [55, 0], [], [57, 58, 59, 60, 0, 61, 62, 0, 63], [], [], [], [], [], [], [], [65, 66, 67, 0, 68, 0, 0, 0, 0, 0, 0, 69, 70, 71, 72, 73, 74, 75, 76, 77, 0, 0, 78, 79, 80, 0, 0], [], [], [], [], [], [], [], [], [], [], [], [], [], [], [], []]
/-- where a reference leads; the sides' trees may have been exchanged -/
def RF (sw : Bool) (r k : Nat) : Nat := if sw = true ∧ r = 3 ∧ k = 1 then 10 else if sw = true ∧ r = 3 ∧ k = 2 then 7 else (rfT.getD r []).getD k 0
def I0 : Nat → Nat → Int32 := fun r k => if (r = 3 ∧ k = 3) ∨ (r = 13 ∧ k = 3) ∨ (r = 23 ∧ k = 3) ∨ (r = 64 ∧ k = 3) then 50 else 0
def mkc (rf : Nat → Nat → Nat) (A I : Nat → Nat → Int32) (k : Nat) (x : Shp) : cE := match x with
  | .inl a => .inl (a.1, a.2, A k)
  | .inr o => .inr (o.1, o.2.mapIdx (fun j t => if t = true then Value.ref (rf k j) else Value.int (I k j)))
def WT (T : List Shp) (rf : Nat → Nat → Nat) (A I : Nat → Nat → Int32) : Hp := T.mapIdx (mkc rf A I)
def up2 {α : Type} (f : Nat → Nat → α) (r k : Nat) (x : α) : Nat → Nat → α := fun a b => if a = r ∧ b = k then x else f a b
theorem up2_s {α : Type} (f : Nat → Nat → α) (r k : Nat) (x : α) : up2 f r k x r k = x := by simp [up2]
theorem up2_n {α : Type} {f : Nat → Nat → α} {r k a b : Nat} {x : α} (h : a ≠ r) : up2 f r k x a b = f a b := by simp [up2, h]
theorem up2_m {α : Type} {f : Nat → Nat → α} {r k a b : Nat} {x : α} (h : b ≠ k) : up2 f r k x a b = f a b := by simp [up2, h]
section MT
variable {T : List Shp} {rf : Nat → Nat → Nat} {A I : Nat → Nat → Int32}
theorem WT_get (r : Nat) : (WT T rf A I)[r]? = (T[r]?).map (mkc rf A I r) := by
  unfold WT
  rw [List.getElem?_mapIdx]
theorem WT_len : (WT T rf A I).length = T.length := by
  unfold WT
  rw [List.length_mapIdx]
def tOb (T : List Shp) (ci r : Nat) : Bool := match T[r]? with
  | some (.inr o) => o.1 == ci
  | _ => false
def tI (T : List Shp) (ci r k : Nat) : Bool := match T[r]? with
  | some (.inr o) => o.1 == ci && o.2[k]? == some false
  | _ => false
def tR (T : List Shp) (ci r k : Nat) : Bool := match T[r]? with
  | some (.inr o) => o.1 == ci && o.2[k]? == some true
  | _ => false
def tA (T : List Shp) (z : Bool) (n a : Nat) : Bool := match T[a]? with
  | some (.inl x) => x.1 == z && x.2 == n
  | _ => false
theorem ck_T {α : Type} {ci r : Nat} {x : Option α} (h : tOb T ci r = true) : ck (WT T rf A I) ci r x = x := by
  unfold ck isO
  rw [WT_get]
  unfold tOb at h
  split at h
  · rename_i o ho
    rw [ho]
    simp [mkc, eq_of_beq h]
  · cases h
theorem tI_spec {ci r k : Nat} (h : tI T ci r k = true) : ∃ ts : List Bool, T[r]? = some (.inr (ci, ts)) ∧ ts[k]? = some false := by
  unfold tI at h
  split at h
  · rename_i o ho
    simp only [Bool.and_eq_true, beq_iff_eq] at h
    exact ⟨o.2, by rw [ho, ← h.1], h.2⟩
  · cases h
theorem tR_spec {ci r k : Nat} (h : tR T ci r k = true) : ∃ ts : List Bool, T[r]? = some (.inr (ci, ts)) ∧ ts[k]? = some true := by
  unfold tR at h
  split at h
  · rename_i o ho
    simp only [Bool.and_eq_true, beq_iff_eq] at h
    exact ⟨o.2, by rw [ho, ← h.1], h.2⟩
  · cases h
theorem tA_spec {z : Bool} {n a : Nat} (h : tA T z n a = true) : T[a]? = some (.inl (z, n)) := by
  unfold tA at h
  split at h
  · rename_i o ho
    simp only [Bool.and_eq_true, beq_iff_eq] at h
    rw [ho, ← h.1, ← h.2]
  · cases h
theorem gI_T {ci r k : Nat} (h : tI T ci r k = true) : gI (WT T rf A I) ci r k = some (I r k) := by
  obtain ⟨ts, h1, h2⟩ := tI_spec h
  unfold gI
  rw [WT_get, h1]
  simp [mkc, List.getElem?_mapIdx, h2]
theorem gR_T {ci r k : Nat} (h : tR T ci r k = true) : gR (WT T rf A I) ci r k = some (rf r k) := by
  obtain ⟨ts, h1, h2⟩ := tR_spec h
  unfold gR
  rw [WT_get, h1]
  simp [mkc, List.getElem?_mapIdx, h2]
theorem mkc_nI {r k j : Nat} {x : Int32} {s : Shp} (hj : ¬ j = r) : mkc rf A (up2 I r k x) j s = mkc rf A I j s := by
  cases s <;> simp [mkc, up2, hj]
theorem mkc_nR {r k j : Nat} {x : Nat} {s : Shp} (hj : ¬ j = r) : mkc (up2 rf r k x) A I j s = mkc rf A I j s := by
  cases s <;> simp [mkc, up2, hj]
theorem mkc_nA {r k j : Nat} {x : Int32} {s : Shp} (hj : ¬ j = r) : mkc rf (up2 A r k x) I j s = mkc rf A I j s := by
  cases s with
  | inl a =>
    have : up2 A r k x j = A j := by funext b; exact up2_n hj
    simp [mkc, this]
  | inr o => simp [mkc]
theorem set_I {ci r k : Nat} {x : Int32} {ts : List Bool} (h1 : T[r]? = some (.inr (ci, ts))) (h2 : ts[k]? = some false) : (WT T rf A I).set r (.inr (ci, (ts.mapIdx (fun j t => if t = true then Value.ref (rf r j) else Value.int (I r j))).set k (.int x))) = WT T rf A (up2 I r k x) := by
  have hk : k < ts.length := (List.getElem?_eq_some_iff.mp h2).1
  apply List.ext_getElem?
  intro j
  rw [List.getElem?_set, WT_get, WT_get, WT_len]
  by_cases hj : r = j
  · subst hj
    rw [if_pos rfl, if_pos (List.getElem?_eq_some_iff.mp h1).1, h1]
    have e : (ts.mapIdx (fun j t => if t = true then Value.ref (rf r j) else Value.int (I r j))).set k (.int x) = ts.mapIdx (fun j t => if t = true then Value.ref (rf r j) else Value.int (up2 I r k x r j)) := by
      apply List.ext_getElem?
      intro q
      rw [List.getElem?_set, List.getElem?_mapIdx, List.getElem?_mapIdx, List.length_mapIdx]
      by_cases hq : k = q
      · subst hq
        rw [if_pos rfl, if_pos hk, h2]
        simp [up2]
      · rw [if_neg hq]
        have hq2 : ¬ q = k := fun z => hq z.symm
        simp [up2, hq2]
    rw [e]
    rfl
  · rw [if_neg hj]
    have hj2 : ¬ j = r := fun z => hj z.symm
    cases hs : T[j]? with
    | none => rfl
    | some s => rw [Option.map_some, Option.map_some, mkc_nI hj2]
theorem set_R {ci r k x : Nat} {ts : List Bool} (h1 : T[r]? = some (.inr (ci, ts))) (h2 : ts[k]? = some true) : (WT T rf A I).set r (.inr (ci, (ts.mapIdx (fun j t => if t = true then Value.ref (rf r j) else Value.int (I r j))).set k (.ref x))) = WT T (up2 rf r k x) A I := by
  have hk : k < ts.length := (List.getElem?_eq_some_iff.mp h2).1
  apply List.ext_getElem?
  intro j
  rw [List.getElem?_set, WT_get, WT_get, WT_len]
  by_cases hj : r = j
  · subst hj
    rw [if_pos rfl, if_pos (List.getElem?_eq_some_iff.mp h1).1, h1]
    have e : (ts.mapIdx (fun j t => if t = true then Value.ref (rf r j) else Value.int (I r j))).set k (.ref x) = ts.mapIdx (fun j t => if t = true then Value.ref (up2 rf r k x r j) else Value.int (I r j)) := by
      apply List.ext_getElem?
      intro q
      rw [List.getElem?_set, List.getElem?_mapIdx, List.getElem?_mapIdx, List.length_mapIdx]
      by_cases hq : k = q
      · subst hq
        rw [if_pos rfl, if_pos hk, h2]
        simp [up2]
      · rw [if_neg hq]
        have hq2 : ¬ q = k := fun z => hq z.symm
        simp [up2, hq2]
    rw [e]
    rfl
  · rw [if_neg hj]
    have hj2 : ¬ j = r := fun z => hj z.symm
    cases hs : T[j]? with
    | none => rfl
    | some s => rw [Option.map_some, Option.map_some, mkc_nR hj2]
theorem set_A {z : Bool} {n a i : Nat} {x : Int32} (h1 : T[a]? = some (.inl (z, n))) : (WT T rf A I).set a (.inl (z, n, upd (A a) i x)) = WT T rf (up2 A a i x) I := by
  apply List.ext_getElem?
  intro j
  rw [List.getElem?_set, WT_get, WT_get, WT_len]
  by_cases hj : a = j
  · subst hj
    rw [if_pos rfl, if_pos (List.getElem?_eq_some_iff.mp h1).1, h1]
    have e : upd (A a) i x = up2 A a i x a := by funext b; simp [upd, up2]
    rw [e]
    rfl
  · rw [if_neg hj]
    have hj2 : ¬ j = a := fun z => hj z.symm
    cases hs : T[j]? with
    | none => rfl
    | some s => rw [Option.map_some, Option.map_some, mkc_nA hj2]
theorem sI_T {ci r k : Nat} {x : Int32} (h : tI T ci r k = true) : sI (WT T rf A I) ci r k x = some (WT T rf A (up2 I r k x)) := by
  obtain ⟨ts, h1, h2⟩ := tI_spec h
  have hk : k < ts.length := (List.getElem?_eq_some_iff.mp h2).1
  rw [← set_I h1 h2]
  unfold sI
  rw [WT_get, h1]
  simp [mkc, hk]
theorem sR_T {ci r k x : Nat} (h : tR T ci r k = true) : sR (WT T rf A I) ci r k x = some (WT T (up2 rf r k x) A I) := by
  obtain ⟨ts, h1, h2⟩ := tR_spec h
  have hk : k < ts.length := (List.getElem?_eq_some_iff.mp h2).1
  rw [← set_R h1 h2]
  unfold sR
  rw [WT_get, h1]
  simp [mkc, hk]
theorem gA_T {z : Bool} {n a i : Nat} (h : tA T z n a = true) (hi : i < n) (hn : n < 2 ^ 31) : gA (WT T rf A I) z a (nI i) = some (A a i) := by
  have h1 := tA_spec h
  unfold gA
  rw [WT_get, h1]
  have hx : ix (nI i) n = true := decide_eq_true (nI_in hi hn)
  simp [mkc, hx, nI_clamp (Nat.lt_trans hi hn)]
theorem lA_T {z : Bool} {n a : Nat} (h : tA T z n a = true) : lA (WT T rf A I) a = some (nI n) := by
  have h1 := tA_spec h
  unfold lA
  rw [WT_get, h1]
  rfl
theorem sA_T {n a i : Nat} {x : Int32} (h : tA T false n a = true) (hi : i < n) (hn : n < 2 ^ 31) : sA (WT T rf A I) a (nI i) x = some (WT T rf (up2 A a i x) I) := by
  have h1 := tA_spec h
  unfold sA
  rw [WT_get, h1]
  have hx : ix (nI i) n = true := decide_eq_true (nI_in hi hn)
  simp [mkc, hx, nI_clamp (Nat.lt_trans hi hn), set_A h1]
theorem sZ_T {n a i : Nat} {x : Int32} (h : tA T true n a = true) (hi : i < n) (hn : n < 2 ^ 31) : sZ (WT T rf A I) a (nI i) x = some (WT T rf (up2 A a i (vp_nar .boolean x)) I) := by
  have h1 := tA_spec h
  unfold sZ
  rw [WT_get, h1]
  have hx : ix (nI i) n = true := decide_eq_true (nI_in hi hn)
  simp [mkc, hx, nI_clamp (Nat.lt_trans hi hn), set_A h1]
end MT
theorem sb {α β : Type} (a : α) (f : α → Option β) : (some a).bind f = f a := rfl
theorem rz_0 : rz 0 = some 0 := by decide
theorem rz_1 : rz 1 = some 1 := by decide
theorem nar_0 : vp_nar .boolean 0 = 0 := by decide
theorem nar_1 : vp_nar .boolean 1 = 1 := by decide
-- ===== this claim's heap =====
def Wd (A I : Nat → Nat → Int32) (sw : Bool) : Hp := WT shT (RF sw) A I
def isOb (ci r : Nat) : Bool := tOb shT ci r
def isI (ci r k : Nat) : Bool := tI shT ci r k
def isR (ci r k : Nat) : Bool := tR shT ci r k
def isAr (z : Bool) (n a : Nat) : Bool := tA shT z n a
section MW
variable {A I : Nat → Nat → Int32} {sw : Bool}
theorem ck_W {α : Type} {ci r : Nat} {x : Option α} (h : isOb ci r = true) : ck (Wd A I sw) ci r x = x := ck_T h
theorem gI_W {ci r k : Nat} (h : isI ci r k = true) : gI (Wd A I sw) ci r k = some (I r k) := gI_T h
theorem gR_W {ci r k : Nat} (h : isR ci r k = true) : gR (Wd A I sw) ci r k = some (RF sw r k) := gR_T h
theorem sI_W {ci r k : Nat} {x : Int32} (h : isI ci r k = true) : sI (Wd A I sw) ci r k x = some (Wd A (up2 I r k x) sw) := sI_T h
theorem gA_W {z : Bool} {n a i : Nat} (h : isAr z n a = true) (hi : i < n) (hn : n < 2 ^ 31) : gA (Wd A I sw) z a (nI i) = some (A a i) := gA_T h hi hn
theorem lA_W {z : Bool} {n a : Nat} (h : isAr z n a = true) : lA (Wd A I sw) a = some (nI n) := lA_T h
theorem sA_W {n a i : Nat} {x : Int32} (h : isAr false n a = true) (hi : i < n) (hn : n < 2 ^ 31) : sA (Wd A I sw) a (nI i) x = some (Wd (up2 A a i x) I sw) := sA_T h hi hn
theorem sZ_W {n a i : Nat} {x : Int32} (h : isAr true n a = true) (hi : i < n) (hn : n < 2 ^ 31) : sZ (Wd A I sw) a (nI i) x = some (Wd (up2 A a i (vp_nar .boolean x)) I sw) := sZ_T h hi hn
/-- the sides' trees are exchanged -/
theorem sR_sw {x y : Nat} (hx : x = RF sw 3 2) (hy : y = RF sw 3 1) : (sR (Wd A I sw) 0 3 1 x).bind (fun h => sR h 0 3 2 y) = some (Wd A I (!sw)) := by
  unfold Wd
  rw [sR_T (by decide)]
  rw [sb, sR_T (by decide)]
  have e : up2 (up2 (RF sw) 3 1 x) 3 2 y = RF (!sw) := by
    subst hx hy
    funext a b
    by_cases ha : a = 3
    · subst ha
      by_cases h1 : b = 1
      · subst h1
        cases sw <;> decide
      · by_cases h2 : b = 2
        · subst h2
          cases sw <;> decide
        · simp [up2, RF, h1, h2]
    · simp [up2, RF, ha]
  rw [e]
end MW
