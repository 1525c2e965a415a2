-- ===== worlds, contexts, contracts =====
abbrev tyL (cI cZ : ClassId) : List (ClassId × FieldType) := [(cI, .int), (cZ, .boolean)]
def isNst : Cond → Bool
  | .methodLinkNest .. => true
  | _ => false
def lw_nest : List Cond := lw_tbl.filter isNst
/-- the tables' part of a state -/
def KS (D : va_G) (cI cZ : ClassId) (U : State) : Prop := va_K D vwCl (tyL cI cZ) U ∧ ∀ w ∈ lw_nest, va_Nw w U
/-- the heap holds the pure heap, from base on, and nothing behind it -/
def Rep (base : Nat) (D : va_G) (cI cZ : ClassId) (h : Hp) (H : Heap) : Prop := va_P D vwCl (wl base cI cZ h) H ∧ H.size = base + h.length
abbrev Ab (base : Nat) : Nat → Prop := fun q => base ≤ q
def PcW (base : Nat) (D : va_G) (cI cZ : ClassId) (h : Hp) (av : List Value) : Array Value → State → Prop := fun v U => v = av.toArray ∧ Rep base D cI cZ h U.heap ∧ KS D cI cZ U
def QcW (base : Nat) (D : va_G) (cI cZ : ClassId) (h : Hp) (v : Option Value) : Array Value → State → Outcome → State → Prop := fun _ st oc t => oc = .returned v ∧ Rep base D cI cZ h t.heap ∧ va_F (Ab base) st t
/-- a contract: from the pure heap h with arguments av, the method y ends with h' and v -/
abbrev Ct (l : Launch) (base : Nat) (D : va_G) (cI cZ : ClassId) (y : MethodName) (b : ByteArray) (nL : Nat) (ret : Option FieldType) (fr lo mc ms : Nat) (h : Hp) (av : List Value) (h' : Hp) (v : Option Value) : Prop :=
  Met l y (Cond.code y b nL ret :: Tw) ({ frames := fr, cells := mc, slots := ms, locals := lo } : Room) (PcW base D cI cZ h av) (QcW base D cI cZ h' v) mc ms (Ab base)
/-- what stays within a method's walk -/
def Cx (base : Nat) (D : va_G) (cI cZ : ClassId) (cc : ByteArray) (nL : Nat) (own nam : String) (ret : Option FieldType) (p : Program) (s : State) (m : MethodId) (args : Array Value) (meth : Method) (c : Code) : Prop :=
  p.tables.exec = Jvm.exec ∧ c.code = cc ∧ c.maxLocals = nL ∧ s.vm.findClass own = some m.cls ∧ (∀ w ∈ Tw, w.before args s = true) ∧ meth.sig.returnType = ret ∧ meth.locks = false ∧ KS D cI cZ s ∧ base ≤ s.heap.size ∧ meth.name = nam
/-- what moves within a method's walk -/
def RS (base : Nat) (D : va_G) (cI cZ : ClassId) (s : State) (H : Heap) (locs : List Loc) (h : Hp) : Prop := Rep base D cI cZ h H ∧ va_S (Ab base) s.heap H locs
-- bundles of words
def FL (own : String) (idx ci k : Nat) : Prop := ∃ (Cn : String) (T : u_T) (N : Nat), vwCl[ci]? = some (Cn, T, N) ∧ k < N ∧ (∀ w ∈ u_ws Cn T N, w ∈ Tw) ∧ Cond.fieldLink own idx (T k).1 (T k).2.1 (T k).2.2.1 ∈ Tw
def FP (own : String) (idx ci k : Nat) (ty : FieldType) (fin : Bool) : Prop := ∃ (Cn : String) (T : u_T) (N : Nat) (ty0 : Nat → FieldType), vwCl[ci]? = some (Cn, T, N) ∧ k < N ∧ (∀ w ∈ u_ws Cn T N, w ∈ Tw) ∧ Cond.fieldLink own idx (T k).1 (T k).2.1 (T k).2.2.1 ∈ Tw ∧ (∀ k, k < N → parseFieldDescriptor (T k).2.2.1 = some (ty0 k)) ∧ (∀ a, a < N → ∀ b, b < N → a ≠ b → (T a).2.1 ≠ (T b).2.1) ∧ (T k).2.2.2 = fin ∧ parseFieldDescriptor (T k).2.2.1 = some ty ∧ (T k).1 = Cn
def NW (own : String) (idx ci : Nat) (fs : List Value) (N : Nat) : Prop := ∃ (Cn : String) (T : u_T) (ty0 : Nat → FieldType), vwCl[ci]? = some (Cn, T, N) ∧ (∀ w ∈ u_ws Cn T N, w ∈ Tw) ∧ (∀ k, k < N → parseFieldDescriptor (T k).2.2.1 = some (ty0 k)) ∧ Cond.classLink own idx Cn ∈ Tw ∧ Cond.instantiable Cn N ∈ Tw ∧ Cond.initialized Cn ∈ Tw ∧ (∀ j, j < N → defaultValue (ty0 j) = vp_V fs j) ∧ ∀ b, fs.map (cv b) = fs
def CLb (y : MethodName) (b : ByteArray) (nL : Nat) (ret : Option FieldType) (n : Nat) : Prop := Cond.code y b nL ret ∈ lw_tbl ∧ Cond.initialized y.cls ∈ Tw ∧ y.cls ≠ "java/lang/invoke/MethodHandle" ∧ y.cls ≠ "java/lang/invoke/VarHandle" ∧ (parseMethodDescriptor y.desc).map (fun d => d.parameters.length) = some n
section RW
variable {p : Program} {l : Launch} {e : Env} {R : Room} {s : State} {m : MethodId} {args : Array Value} {below : List Frame} {meth : Method} {c : Code} {H : Heap} {locs : List Loc} {cells slots : Nat} {Q : State → Prop}
variable {cc : ByteArray} {nL : Nat} {own nam : String} {ret : Option FieldType} {base : Nat} {D : va_G} {cI cZ : ClassId} {h : Hp} {pc : Nat} {ls : Array Slot} {rest : List Value}
theorem r_getI (C : Cx base D cI cZ cc nL own nam ret p s m args meth c) (hS : RS base D cI cZ s H locs h) {idx ci k r : Nat} {x : Int32} (hf : FL own idx ci k) (hg : gI h ci r k = some x) (hdg : decode cc pc = .ok (.getfield idx, 3)) (kk : W p l e R s m args below meth c H locs cells slots Q (F0 m (pc + 3) ls (.int x :: rest))) : W p l e R s m args below meth c H locs cells slots Q (F0 m pc ls (.ref (base + r) :: rest)) := by
  obtain ⟨fs, h1, h2⟩ := gI_spec hg
  obtain ⟨Cn, T, N, hc, hk, hin, hl⟩ := hf
  obtain ⟨hx, hb, -, hown, hts, -, -, hK, -⟩ := C
  exact va_get (D := D) (cl := vwCl) (tys := tyL cI cZ) (ci := ci) hx hb hts hin hown hK.1 hS.1.1 r (wl_get h1) hc k hk (hts _ hl) (fun _ h9 => h9) (by show (fs.map (cv base))[k]? = _; rw [List.getElem?_map, h2]; rfl) hdg kk
theorem r_getR (C : Cx base D cI cZ cc nL own nam ret p s m args meth c) (hS : RS base D cI cZ s H locs h) {idx ci k r x : Nat} (hf : FL own idx ci k) (hg : gR h ci r k = some x) (hdg : decode cc pc = .ok (.getfield idx, 3)) (kk : W p l e R s m args below meth c H locs cells slots Q (F0 m (pc + 3) ls (.ref (base + x) :: rest))) : W p l e R s m args below meth c H locs cells slots Q (F0 m pc ls (.ref (base + r) :: rest)) := by
  obtain ⟨fs, h1, h2⟩ := gR_spec hg
  obtain ⟨Cn, T, N, hc, hk, hin, hl⟩ := hf
  obtain ⟨hx, hb, -, hown, hts, -, -, hK, -⟩ := C
  exact va_get (D := D) (cl := vwCl) (tys := tyL cI cZ) (ci := ci) hx hb hts hin hown hK.1 hS.1.1 r (wl_get h1) hc k hk (hts _ hl) (fun _ h9 => h9) (by show (fs.map (cv base))[k]? = _; rw [List.getElem?_map, h2]; rfl) hdg kk
theorem r_put0 (C : Cx base D cI cZ cc nL own nam ret p s m args meth c) (hS : RS base D cI cZ s H locs h) {idx ci k r : Nat} {v : Value} {ty : FieldType} {fs : List Value} (hf : FP own idx ci k ty false) (h1 : h[r]? = some (.inr (ci, fs))) (hl2 : k < fs.length) (hn : narrow ty (cv base v) = cv base v) (hfit : fits ty (cv base v) = true) (hdg : decode cc pc = .ok (.putfield idx, 3)) (kk : ∀ (H1 : Heap) (locs1 : List Loc), RS base D cI cZ s H1 locs1 (h.set r (.inr (ci, fs.set k v))) → W p l e R s m args below meth c H1 locs1 cells slots Q (F0 m (pc + 3) ls rest)) : W p l e R s m args below meth c H locs cells slots Q (F0 m pc ls (cv base v :: .ref (base + r) :: rest)) := by
  obtain ⟨Cn, T, N, ty0, hc, hk, hin, hl, hty, hnm, hfin, hd, -⟩ := hf
  obtain ⟨hx, hb, -, hown, hts, -, -, hK0, -⟩ := C
  have hK := hK0.1
  have he := wl_get (base := base) (cI := cI) (cZ := cZ) h1
  have hap := va_apart (own := own) hts hin ty0 hty hnm hK hc
  obtain ⟨r0, h10, cell, q1, q2, q3, q4⟩ := hS.1.1 r _ he
  have hr : r0 = (Cn, T, N) := Option.some.inj (h10.symm.trans hc)
  subst hr
  obtain ⟨hSl, hfc, kC, hkC, hkind⟩ := hK.1 ci _ hc
  obtain ⟨cf, kf, fi, f, hi, hsl⟩ := hSl k hk
  have hlay := hts _ (hin _ (u_in_lay hk))
  unfold u_lay at hlay
  rw [if_neg (by rw [hfin]; decide)] at hlay
  have hst := (u_facts hfc hkC (u_lays hts hin hk) hi).1
  have h6 := u_store hfc hkC hkind hlay hi hd hn hfit
  refine W.putK hx hb (f := f) ⟨hown, hts _ hl, ⟨_, _, _, hi⟩, hst⟩ (by rw [q2]; exact h6) q1 q3 (by rw [hsl]; exact k2_hasslot (q4 k hk)) rfl rfl hdg fun H' e1 e2 e3 => ?_
  rw [hsl] at e1 ⊢
  have hw : (wl base cI cZ h).set r (base + r, .inr (ci, (fs.map (cv base)).set k (cv base v))) = wl base cI cZ (h.set r (.inr (ci, fs.set k v))) := by
    rw [← wl_set]
    show _ = (wl base cI cZ h).set r (base + r, .inr (ci, (fs.set k v).map (cv base)))
    rw [List.map_set]
  refine kk H' _ ⟨⟨?_, ?_⟩, hS.2.put e2 e3 (Nat.le_add_right _ _)⟩
  · rw [← hw]
    exact hS.1.1.set wl_D he ⟨_, hc, t_OB.to (V := updV (vp_V (fs.map (cv base))) k (cv base v)) ⟨_, e1, q2, q3, t_set q4 hap hk (cv base v)⟩ (fun j _ => vp_updV_set (by rw [List.length_map]; exact hl2) (cv base v) j)⟩ e3
  · rw [e2, List.length_set]
    exact hS.1.2
theorem r_putI (C : Cx base D cI cZ cc nL own nam ret p s m args meth c) (hS : RS base D cI cZ s H locs h) {idx ci k r : Nat} {x : Int32} {h' : Hp} (hf : FP own idx ci k .int false) (hg : sI h ci r k x = some h') (hdg : decode cc pc = .ok (.putfield idx, 3)) (kk : ∀ (H1 : Heap) (locs1 : List Loc), RS base D cI cZ s H1 locs1 h' → W p l e R s m args below meth c H1 locs1 cells slots Q (F0 m (pc + 3) ls rest)) : W p l e R s m args below meth c H locs cells slots Q (F0 m pc ls (.int x :: .ref (base + r) :: rest)) := by
  obtain ⟨fs, h1, h2, rfl⟩ := sI_spec hg
  exact r_put0 (v := .int x) C hS hf h1 h2 rfl rfl hdg kk
theorem r_putZ (C : Cx base D cI cZ cc nL own nam ret p s m args meth c) (hS : RS base D cI cZ s H locs h) {idx ci k r : Nat} {x : Int32} {h' : Hp} (hf : FP own idx ci k .boolean false) (hg : sI h ci r k x = some h') (hn : narrow .boolean (.int x) = .int x) (hfit : fits .boolean (.int x) = true) (hdg : decode cc pc = .ok (.putfield idx, 3)) (kk : ∀ (H1 : Heap) (locs1 : List Loc), RS base D cI cZ s H1 locs1 h' → W p l e R s m args below meth c H1 locs1 cells slots Q (F0 m (pc + 3) ls rest)) : W p l e R s m args below meth c H locs cells slots Q (F0 m pc ls (.int x :: .ref (base + r) :: rest)) := by
  obtain ⟨fs, h1, h2, rfl⟩ := sI_spec hg
  exact r_put0 (v := .int x) C hS hf h1 h2 hn hfit hdg kk
theorem r_putR (C : Cx base D cI cZ cc nL own nam ret p s m args meth c) (hS : RS base D cI cZ s H locs h) {idx ci k r x : Nat} {ty : FieldType} {h' : Hp} (hf : FP own idx ci k ty false) (hg : sR h ci r k x = some h') (hn : narrow ty (.ref (base + x)) = .ref (base + x)) (hfit : fits ty (.ref (base + x)) = true) (hdg : decode cc pc = .ok (.putfield idx, 3)) (kk : ∀ (H1 : Heap) (locs1 : List Loc), RS base D cI cZ s H1 locs1 h' → W p l e R s m args below meth c H1 locs1 cells slots Q (F0 m (pc + 3) ls rest)) : W p l e R s m args below meth c H locs cells slots Q (F0 m pc ls (.ref (base + x) :: .ref (base + r) :: rest)) := by
  obtain ⟨fs, h1, h2, rfl⟩ := sR_spec hg
  exact r_put0 (v := .ref x) C hS hf h1 h2 hn hfit hdg kk
/-- a final field, in its class's constructor -/
theorem r_putF (C : Cx base D cI cZ cc nL own "<init>" ret p s m args meth c) (hS : RS base D cI cZ s H locs h) {idx ci k r x : Nat} {ty : FieldType} {h' : Hp} (hf : FP own idx ci k ty true) (hown2 : ∀ q, vwCl[ci]? = some q → q.1 = own) (hg : sR h ci r k x = some h') (hn : narrow ty (.ref (base + x)) = .ref (base + x)) (hfit : fits ty (.ref (base + x)) = true) (hdg : decode cc pc = .ok (.putfield idx, 3)) (kk : ∀ (H1 : Heap) (locs1 : List Loc), RS base D cI cZ s H1 locs1 h' → W p l e R s m args below meth c H1 locs1 cells slots Q (F0 m (pc + 3) ls rest)) : W p l e R s m args below meth c H locs cells slots Q (F0 m pc ls (.ref (base + x) :: .ref (base + r) :: rest)) := by
  obtain ⟨fs, h1, h2, rfl⟩ := sR_spec hg
  obtain ⟨Cn, T, N, ty0, hc, hk, hin, hl, hty, hnm, hfin, hd, hdecl⟩ := hf
  have hCn : Cn = own := hown2 _ hc
  obtain ⟨hx, hb, -, hown, hts, -, -, hK0, -, hin2⟩ := C
  have hK := hK0.1
  have he := wl_get (base := base) (cI := cI) (cZ := cZ) h1
  have hap := va_apart (own := own) hts hin ty0 hty hnm hK hc
  obtain ⟨r0, h10, cell, q1, q2, q3, q4⟩ := hS.1.1 r _ he
  have hr : r0 = (Cn, T, N) := Option.some.inj (h10.symm.trans hc)
  subst hr
  obtain ⟨hSl, hfc, kC, hkC, hkind⟩ := hK.1 ci _ hc
  obtain ⟨cf, kf, fi, f, hi, hsl⟩ := hSl k hk
  have hlay := hts _ (hin _ (u_in_lay hk))
  unfold u_lay at hlay
  rw [if_pos hfin] at hlay
  have hst := (u_facts hfc hkC (u_lays hts hin hk) hi).1
  have hcf : m.cls = cf := by
    obtain ⟨_, _, c', _, _, _, -, -, hf', -, -, -, hown3, -⟩ := Cond.laysFinal_spec hlay
    have e1 : c' = cf := by have := hi.symm.trans hf'; simp at this; exact this.1.symm
    rw [hdecl, hCn] at hown3
    rw [← e1]; exact Option.some.inj (hown.symm.trans hown3)
  have h6 := u_fits hfc hkC hkind (Or.inr hlay) hi hd hn hfit
  refine W.putFinK hx hb hown (hts _ hl) hi hst hcf hin2 (by rw [q2]; exact h6) q1 q3 (by rw [hsl]; exact k2_hasslot (q4 k hk)) rfl rfl hdg fun H' e1 e2 e3 => ?_
  rw [hsl] at e1 ⊢
  have hw : (wl base cI cZ h).set r (base + r, .inr (ci, (fs.map (cv base)).set k (cv base (.ref x)))) = wl base cI cZ (h.set r (.inr (ci, fs.set k (.ref x)))) := by
    rw [← wl_set]
    show _ = (wl base cI cZ h).set r (base + r, .inr (ci, (fs.set k (.ref x)).map (cv base)))
    rw [List.map_set]
  refine kk H' _ ⟨⟨?_, ?_⟩, hS.2.put e2 e3 (Nat.le_add_right _ _)⟩
  · rw [← hw]
    exact hS.1.1.set wl_D he ⟨_, hc, t_OB.to (V := updV (vp_V (fs.map (cv base))) k (cv base (.ref x))) ⟨_, e1, q2, q3, t_set q4 hap hk (cv base (.ref x))⟩ (fun j _ => vp_updV_set (by rw [List.length_map]; exact h2) (cv base (.ref x)) j)⟩ e3
  · rw [e2, List.length_set]
    exact hS.1.2
theorem r_iald (C : Cx base D cI cZ cc nL own nam ret p s m args meth c) (hS : RS base D cI cZ s H locs h) {a : Nat} {i x : Int32} (hg : gA h false a i = some x) (hdg : decode cc pc = .ok (.iaload, 1)) (kk : W p l e R s m args below meth c H locs cells slots Q (F0 m (pc + 1) ls (.int x :: rest))) : W p l e R s m args below meth c H locs cells slots Q (F0 m pc ls (.int i :: .ref (base + a) :: rest)) := by
  obtain ⟨n, f, h1, hin, rfl⟩ := gA_spec hg
  obtain ⟨hx, hb, -, hown, hts, -, -, hK, -⟩ := C
  exact va_iald (D := D) (cl := vwCl) (tys := tyL cI cZ) hx hb hK.1 hS.1.1 a 0 (wl_get h1) rfl hin hdg kk
theorem r_zald (C : Cx base D cI cZ cc nL own nam ret p s m args meth c) (hS : RS base D cI cZ s H locs h) {a : Nat} {i x : Int32} (hg : gA h true a i = some x) (hdg : decode cc pc = .ok (.baload, 1)) (kk : W p l e R s m args below meth c H locs cells slots Q (F0 m (pc + 1) ls (.int x :: rest))) : W p l e R s m args below meth c H locs cells slots Q (F0 m pc ls (.int i :: .ref (base + a) :: rest)) := by
  obtain ⟨n, f, h1, hin, rfl⟩ := gA_spec hg
  obtain ⟨hx, hb, -, hown, hts, -, -, hK, -⟩ := C
  exact va_zald (D := D) (cl := vwCl) (tys := tyL cI cZ) hx hb hK.1 hS.1.1 a 1 (wl_get h1) rfl hin hdg kk
theorem r_alen (C : Cx base D cI cZ cc nL own nam ret p s m args meth c) (hS : RS base D cI cZ s H locs h) {a : Nat} {x : Int32} (hg : lA h a = some x) (hdg : decode cc pc = .ok (.arraylength, 1)) (kk : W p l e R s m args below meth c H locs cells slots Q (F0 m (pc + 1) ls (.int x :: rest))) : W p l e R s m args below meth c H locs cells slots Q (F0 m pc ls (.ref (base + a) :: rest)) := by
  obtain ⟨z, n, f, h1, rfl⟩ := lA_spec hg
  obtain ⟨hx, hb, -, hown, hts, -, -, hK, -⟩ := C
  cases z with
  | false => exact va_alen (D := D) (cl := vwCl) (tys := tyL cI cZ) hx hb hK.1 hS.1.1 a 0 (wl_get h1) (ty := .int) rfl rfl hdg kk
  | true => exact va_alen (D := D) (cl := vwCl) (tys := tyL cI cZ) hx hb hK.1 hS.1.1 a 1 (wl_get h1) (ty := .boolean) rfl rfl hdg kk
theorem r_iast (C : Cx base D cI cZ cc nL own nam ret p s m args meth c) (hS : RS base D cI cZ s H locs h) {a : Nat} {i x : Int32} {h' : Hp} (hg : sA h a i x = some h') (hdg : decode cc pc = .ok (.iastore, 1)) (kk : ∀ (H1 : Heap) (locs1 : List Loc), RS base D cI cZ s H1 locs1 h' → W p l e R s m args below meth c H1 locs1 cells slots Q (F0 m (pc + 1) ls rest)) : W p l e R s m args below meth c H locs cells slots Q (F0 m pc ls (.int x :: .int i :: .ref (base + a) :: rest)) := by
  obtain ⟨n, f, h1, hin, rfl⟩ := sA_spec hg
  obtain ⟨hx, hb, -, hown, hts, -, -, hK0, -⟩ := C
  have hK := hK0.1
  have ha := wl_get (base := base) (cI := cI) (cZ := cZ) h1
  refine W.iast hx hb (hS.1.1 a _ ha) ((hK.2 0 (cI, .int) rfl).1 n (fun j => .int (f j))) (fun q => by cases q) (by show ¬ (i < 0 ∨ (arrV _ _ _).slots.size ≤ _); rw [arrV_size]; exact hin) rfl rfl hdg fun H1 e1 z oq => ?_
  refine kk H1 _ ⟨⟨?_, ?_⟩, hS.2.put z oq (Nat.le_add_right _ _)⟩
  · rw [← wl_set]
    refine hS.1.1.set wl_D ha ?_ oq
    show H1[base + a]? = some (vp_cell _ _)
    rw [e1]
    rw [vp_cell_i, vp_cell_i, arrV_store]
    congr 2
    funext q
    by_cases hq : q = i.toNatClampNeg
    · subst hq
      simp [updV, upd]
    · simp [updV, upd, hq]
  · rw [z, List.length_set]
    exact hS.1.2
theorem r_zast (C : Cx base D cI cZ cc nL own nam ret p s m args meth c) (hS : RS base D cI cZ s H locs h) {a : Nat} {i x : Int32} {h' : Hp} (hg : sZ h a i x = some h') (hdg : decode cc pc = .ok (.bastore, 1)) (kk : ∀ (H1 : Heap) (locs1 : List Loc), RS base D cI cZ s H1 locs1 h' → W p l e R s m args below meth c H1 locs1 cells slots Q (F0 m (pc + 1) ls rest)) : W p l e R s m args below meth c H locs cells slots Q (F0 m pc ls (.int x :: .int i :: .ref (base + a) :: rest)) := by
  obtain ⟨n, f, h1, hin, rfl⟩ := sZ_spec hg
  obtain ⟨hx, hb, -, hown, hts, -, -, hK0, -⟩ := C
  have hK := hK0.1
  have ha := wl_get (base := base) (cI := cI) (cZ := cZ) h1
  refine W.zast hx hb (hS.1.1 a _ ha) ((hK.2 1 (cZ, .boolean) rfl).1 n (fun j => .int (f j))) (fun q => by cases q) (by show ¬ (i < 0 ∨ (arrV _ _ _).slots.size ≤ _); rw [arrV_size]; exact hin) rfl rfl hdg fun H1 e1 z oq => ?_
  refine kk H1 _ ⟨⟨?_, ?_⟩, hS.2.put z oq (Nat.le_add_right _ _)⟩
  · rw [← wl_set]
    refine hS.1.1.set wl_D ha ?_ oq
    show H1[base + a]? = some (vp_cell _ _)
    rw [e1]
    rw [vp_cell_i, vp_cell_i, arrV_store]
    congr 2
    funext q
    by_cases hq : q = i.toNatClampNeg
    · subst hq
      simp [updV, upd, vp_nar]
      try rfl
    · simp [updV, upd, hq]
  · rw [z, List.length_set]
    exact hS.1.2
end RW
