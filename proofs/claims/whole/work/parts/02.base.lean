-- ===== the words that every contract rests on =====
def Tw : List Cond := lw_tbl.filter goodWord
theorem Tw_in {w : Cond} (h : w ∈ lw_tbl) (g : goodWord w = true) : w ∈ Tw := List.mem_filter.mpr ⟨h, g⟩
theorem Tw_good : GoodIn Tw Tw := fun w h => ⟨h, good_of_word (List.mem_filter.mp h).2⟩
theorem Tw_code {y : MethodName} {b : ByteArray} {n : Nat} {r : Option FieldType} (h : Cond.code y b n r ∈ lw_tbl) : GoodIn Tw (Cond.code y b n r :: Tw) := fun w hw => by
  rcases List.mem_cons.mp hw with e | e
  · subst e
    exact Tw_good _ (Tw_in h rfl)
  · exact Tw_good w e
-- ===== the pure heap =====
abbrev cE : Type := (Bool × Nat × (Nat → Int32)) ⊕ (Nat × List Value)
abbrev Hp : Type := List cE
def cv (base : Nat) (v : Value) : Value := match v with
  | .ref k => .ref (base + k)
  | w => w
def ce (base : Nat) (cI cZ : ClassId) (x : cE) : va_E := match x with
  | .inl a => .inl ((if a.1 = true then cZ else cI), a.2.1, .inl a.2.2)
  | .inr o => .inr (o.1, o.2.map (cv base))
def wl (base : Nat) (cI cZ : ClassId) (h : Hp) : va_W := h.mapIdx (fun k x => (base + k, ce base cI cZ x))
theorem wl_get {base : Nat} {cI cZ : ClassId} {h : Hp} {k : Nat} {x : cE} (hk : h[k]? = some x) : (wl base cI cZ h)[k]? = some (base + k, ce base cI cZ x) := by
  unfold wl
  rw [List.getElem?_mapIdx, hk]
  rfl
theorem wl_of {base : Nat} {cI cZ : ClassId} {h : Hp} {k : Nat} {q : Nat × va_E} (hq : (wl base cI cZ h)[k]? = some q) : q.1 = base + k ∧ k < h.length := by
  unfold wl at hq
  rw [List.getElem?_mapIdx] at hq
  cases hx : h[k]? with
  | none => rw [hx] at hq; cases hq
  | some x =>
    rw [hx] at hq
    cases hq
    exact ⟨rfl, (List.getElem?_eq_some_iff.mp hx).1⟩
theorem wl_set {base : Nat} {cI cZ : ClassId} {h : Hp} {k : Nat} {x : cE} : (wl base cI cZ h).set k (base + k, ce base cI cZ x) = wl base cI cZ (h.set k x) := by
  apply List.ext_getElem?
  intro i
  unfold wl
  rw [List.getElem?_set, List.getElem?_mapIdx, List.getElem?_mapIdx, List.getElem?_set, List.length_mapIdx]
  by_cases hi : k = i
  · subst hi
    by_cases hl : k < h.length
    · simp [hl]
    · simp [hl]
  · simp [hi]
theorem wl_push {base : Nat} {cI cZ : ClassId} {h : Hp} {x : cE} : wl base cI cZ (h ++ [x]) = wl base cI cZ h ++ [(base + h.length, ce base cI cZ x)] := by
  unfold wl
  rw [List.mapIdx_append]
  simp
theorem wl_D {base : Nat} {cI cZ : ClassId} {h : Hp} : va_D (fun q => base ≤ q) (wl base cI cZ h) := by
  refine ⟨fun i j x y hi hj hxy => ?_, fun k q hk => ?_⟩
  · have h1 := (wl_of hi).1
    have h2 := (wl_of hj).1
    omega
  · have h1 := (wl_of hk).1
    show base ≤ q.1
    omega
-- ===== reads and writes of the pure heap =====
def isO (h : Hp) (ci r : Nat) : Bool := match h[r]? with
  | some (.inr o) => o.1 == ci
  | _ => false
def ck {α : Type} (h : Hp) (ci r : Nat) (x : Option α) : Option α := if isO h ci r = true then x else none
def gI (h : Hp) (ci r k : Nat) : Option Int32 := match h[r]? with
  | some (.inr o) => if o.1 = ci then (match o.2[k]? with | some (.int x) => some x | _ => none) else none
  | _ => none
def gR (h : Hp) (ci r k : Nat) : Option Nat := match h[r]? with
  | some (.inr o) => if o.1 = ci then (match o.2[k]? with | some (.ref x) => some x | _ => none) else none
  | _ => none
def sI (h : Hp) (ci r k : Nat) (x : Int32) : Option Hp := match h[r]? with
  | some (.inr o) => if o.1 = ci ∧ k < o.2.length then some (h.set r (.inr (ci, o.2.set k (.int x)))) else none
  | _ => none
def sR (h : Hp) (ci r k : Nat) (x : Nat) : Option Hp := match h[r]? with
  | some (.inr o) => if o.1 = ci ∧ k < o.2.length then some (h.set r (.inr (ci, o.2.set k (.ref x)))) else none
  | _ => none
def ix (i : Int32) (n : Nat) : Bool := decide (¬ (i < 0 ∨ n ≤ i.toNatClampNeg))
def gA (h : Hp) (z : Bool) (a : Nat) (i : Int32) : Option Int32 := match h[a]? with
  | some (.inl x) => if x.1 = z ∧ ix i x.2.1 = true then some (x.2.2 i.toNatClampNeg) else none
  | _ => none
def sA (h : Hp) (a : Nat) (i x : Int32) : Option Hp := match h[a]? with
  | some (.inl y) => if y.1 = false ∧ ix i y.2.1 = true then some (h.set a (.inl (false, y.2.1, upd y.2.2 i.toNatClampNeg x))) else none
  | _ => none
def sZ (h : Hp) (a : Nat) (i x : Int32) : Option Hp := match h[a]? with
  | some (.inl y) => if y.1 = true ∧ ix i y.2.1 = true then some (h.set a (.inl (true, y.2.1, upd y.2.2 i.toNatClampNeg (vp_nar .boolean x)))) else none
  | _ => none
def lA (h : Hp) (a : Nat) : Option Int32 := match h[a]? with
  | some (.inl x) => some (Int32.ofNat x.2.1)
  | _ => none
def idv (x y : Int32) : Option Int32 := if y = 0 then none else some (x / y)
def irm (x y : Int32) : Option Int32 := if y = 0 then none else some (x - x / y * y)
def irem (x y : Int32) : Int32 := x - x / y * y
def rz (x : Int32) : Option Int32 := if vp_nar .boolean x = x then some x else none
def FU : Nat := 4000
theorem bS {α β : Type} {o : Option α} {f : α → Option β} {r : β} (h : o.bind f = some r) : ∃ a, o = some a ∧ f a = some r := by
  cases o with
  | none => cases h
  | some a => exact ⟨a, rfl, h⟩
theorem ck_some {α : Type} {h : Hp} {ci r : Nat} {x : Option α} {v : α} (e : ck h ci r x = some v) : isO h ci r = true ∧ x = some v := by
  unfold ck at e
  split at e
  · rename_i q
    exact ⟨q, e⟩
  · cases e
theorem isO_spec {h : Hp} {ci r : Nat} (e : isO h ci r = true) : ∃ fs, h[r]? = some (.inr (ci, fs)) := by
  unfold isO at e
  split at e
  · rename_i o ho
    have := eq_of_beq e
    exact ⟨o.2, by rw [ho, ← this]⟩
  · cases e
theorem gI_spec {h : Hp} {ci r k : Nat} {x : Int32} (e : gI h ci r k = some x) : ∃ fs, h[r]? = some (.inr (ci, fs)) ∧ fs[k]? = some (.int x) := by
  unfold gI at e
  split at e
  · rename_i o ho
    split at e
    · rename_i hc
      split at e
      · rename_i y hy
        cases e
        exact ⟨o.2, by rw [ho, ← hc], hy⟩
      · cases e
    · cases e
  · cases e
theorem gR_spec {h : Hp} {ci r k x : Nat} (e : gR h ci r k = some x) : ∃ fs, h[r]? = some (.inr (ci, fs)) ∧ fs[k]? = some (.ref x) := by
  unfold gR at e
  split at e
  · rename_i o ho
    split at e
    · rename_i hc
      split at e
      · rename_i y hy
        cases e
        exact ⟨o.2, by rw [ho, ← hc], hy⟩
      · cases e
    · cases e
  · cases e
theorem sI_spec {h h' : Hp} {ci r k : Nat} {x : Int32} (e : sI h ci r k x = some h') : ∃ fs, h[r]? = some (.inr (ci, fs)) ∧ k < fs.length ∧ h' = h.set r (.inr (ci, fs.set k (.int x))) := by
  unfold sI at e
  split at e
  · rename_i o ho
    split at e
    · rename_i hc
      cases e
      exact ⟨o.2, by rw [ho, ← hc.1], hc.2, rfl⟩
    · cases e
  · cases e
theorem sR_spec {h h' : Hp} {ci r k x : Nat} (e : sR h ci r k x = some h') : ∃ fs, h[r]? = some (.inr (ci, fs)) ∧ k < fs.length ∧ h' = h.set r (.inr (ci, fs.set k (.ref x))) := by
  unfold sR at e
  split at e
  · rename_i o ho
    split at e
    · rename_i hc
      cases e
      exact ⟨o.2, by rw [ho, ← hc.1], hc.2, rfl⟩
    · cases e
  · cases e
theorem ix_in {i : Int32} {n : Nat} (e : ix i n = true) : vp_in i n := of_decide_eq_true (p := ¬ (i < 0 ∨ n ≤ i.toNatClampNeg)) e
theorem gA_spec {h : Hp} {z : Bool} {a : Nat} {i x : Int32} (e : gA h z a i = some x) : ∃ (n : Nat) (f : Nat → Int32), h[a]? = some (.inl (z, n, f)) ∧ vp_in i n ∧ x = f i.toNatClampNeg := by
  unfold gA at e
  split at e
  · rename_i y hy
    split at e
    · rename_i hc
      cases e
      exact ⟨y.2.1, y.2.2, by rw [hy, ← hc.1], ix_in hc.2, rfl⟩
    · cases e
  · cases e
theorem sA_spec {h h' : Hp} {a : Nat} {i x : Int32} (e : sA h a i x = some h') : ∃ (n : Nat) (f : Nat → Int32), h[a]? = some (.inl (false, n, f)) ∧ vp_in i n ∧ h' = h.set a (.inl (false, n, upd f i.toNatClampNeg x)) := by
  unfold sA at e
  split at e
  · rename_i y hy
    split at e
    · rename_i hc
      cases e
      exact ⟨y.2.1, y.2.2, by rw [hy, ← hc.1], ix_in hc.2, rfl⟩
    · cases e
  · cases e
theorem sZ_spec {h h' : Hp} {a : Nat} {i x : Int32} (e : sZ h a i x = some h') : ∃ (n : Nat) (f : Nat → Int32), h[a]? = some (.inl (true, n, f)) ∧ vp_in i n ∧ h' = h.set a (.inl (true, n, upd f i.toNatClampNeg (vp_nar .boolean x))) := by
  unfold sZ at e
  split at e
  · rename_i y hy
    split at e
    · rename_i hc
      cases e
      exact ⟨y.2.1, y.2.2, by rw [hy, ← hc.1], ix_in hc.2, rfl⟩
    · cases e
  · cases e
theorem lA_spec {h : Hp} {a : Nat} {x : Int32} (e : lA h a = some x) : ∃ (z : Bool) (n : Nat) (f : Nat → Int32), h[a]? = some (.inl (z, n, f)) ∧ Int32.ofNat n = x := by
  unfold lA at e
  split at e
  · rename_i y hy
    cases e
    exact ⟨y.1, y.2.1, y.2.2, hy, rfl⟩
  · cases e
theorem idv_spec {x y z : Int32} (e : idv x y = some z) : ¬ y = 0 ∧ z = x / y := by
  unfold idv at e
  split at e
  · cases e
  · rename_i hy
    cases e
    exact ⟨hy, rfl⟩
theorem irm_spec {x y z : Int32} (e : irm x y = some z) : ¬ y = 0 ∧ z = x - x / y * y := by
  unfold irm at e
  split at e
  · cases e
  · rename_i hy
    cases e
    exact ⟨hy, rfl⟩
theorem rz_spec {x z : Int32} (e : rz x = some z) : z = x ∧ narrow .boolean (.int x) = .int x := by
  unfold rz at e
  split at e
  · rename_i hx
    cases e
    refine ⟨rfl, ?_⟩
    have h1 : vp_nar .boolean x = x := hx
    unfold vp_nar at h1
    first
      | (split at h1
         · rename_i w hw
           rw [hw, h1]
         · rename_i hw
           exfalso
           revert hw
           simp [narrow])
      | (simp [narrow] at h1 ⊢; exact h1)
  · cases e
