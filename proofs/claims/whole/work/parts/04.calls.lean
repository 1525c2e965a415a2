-- ===== nest words move with the tables =====
theorem lw_nest_ok : lw_nest.all isNst = true := List.all_eq_true.mpr (fun w h => (List.mem_filter.mp h).2)
theorem Nst_warm {w : Cond} (hw : w ∈ lw_nest) {s U : State} (hW : s.WarmedH U.vm) (h : va_Nw w s) : va_Nw w U := by
  have h1 := List.all_eq_true.mp lw_nest_ok w hw
  unfold isNst at h1
  split at h1
  · exact va_Nw.warmM hW h
  · cases h1
theorem Nst_same {w : Cond} (hw : w ∈ lw_nest) {s U : State} (hW : s.vm = U.vm) (h : va_Nw w s) : va_Nw w U := by
  have h1 := List.all_eq_true.mp lw_nest_ok w hw
  unfold isNst at h1
  split at h1
  · exact va_Nw.same rfl hW h
  · cases h1
theorem KS.warm {D : va_G} {cI cZ : ClassId} {s U : State} (hW : s.WarmedH U.vm) (h : KS D cI cZ s) : KS D cI cZ U := ⟨va_K.moved hW.alike h.1, fun w hw => Nst_warm hw hW (h.2 w hw)⟩
theorem PcW.blind {base : Nat} {D : va_G} {cI cZ : ClassId} {h : Hp} {av : List Value} : FrameBlind (PcW base D cI cZ h av) := fun a U g mk q => ⟨q.1, q.2.1, va_K.moved (u := U) (U := U.calling g mk a) (Vm.Alike.refl U.vm) q.2.2.1, fun w hw => Nst_same hw (s := U) (U := U.calling g mk a) rfl (q.2.2.2 w hw)⟩
-- bundles of a call's words
def CV (own : String) (idx ci : Nat) (y : MethodName) (b : ByteArray) (nL : Nat) (ret : Option FieldType) (n : Nat) : Prop := CLb y b nL ret n ∧ Cond.methodLink own idx y ∈ Tw ∧ Cond.instanceMethod y ∈ Tw ∧ Cond.selects y.cls y y ∈ Tw ∧ (vwCl[ci]?).map (fun q => q.1) = some y.cls
def CS (own : String) (idx : Nat) (y : MethodName) (b : ByteArray) (nL : Nat) (ret : Option FieldType) (n : Nat) : Prop := CLb y b nL ret n ∧ Cond.methodLink own idx y ∈ Tw ∧ Cond.static y ∈ Tw
def CI (own : String) (idx : Nat) (y : MethodName) (b : ByteArray) (nL : Nat) (n : Nat) : Prop := CLb y b nL none n ∧ Cond.methodLink own idx y ∈ Tw ∧ Cond.instanceMethod y ∈ Tw ∧ y.name = "<init>"
def CN (own : String) (idx : Nat) (y : MethodName) (b : ByteArray) (nL : Nat) (n : Nat) (host : String) : Prop := CLb y b nL none n ∧ Cond.methodLinkNest own idx y host ∈ lw_nest ∧ Cond.instanceMethod y ∈ Tw ∧ y.name = "<init>"
def OI (own : String) (idx : Nat) : Prop := Cond.methodLink own idx Lib.objectInit ∈ Tw ∧ Cond.instanceMethod Lib.objectInit ∈ Tw ∧ Cond.code Lib.objectInit ⟨#[0xb1]⟩ 1 none ∈ Tw
section RC
variable {p : Program} {l : Launch} {e : Env} {R : Room} {s : State} {m : MethodId} {args : Array Value} {below : List Frame} {meth : Method} {c : Code} {H : Heap} {locs : List Loc} {cells slots : Nat} {Q : State → Prop}
variable {cc : ByteArray} {nL : Nat} {own nam : String} {ret : Option FieldType} {base : Nat} {D : va_G} {cI cZ : ClassId} {h : Hp} {pc : Nat} {ls : Array Slot} {rest : List Value}
theorem r_cont {mc ms : Nat} {h' : Hp} {v : Option Value} {a : Array Value} {st0 : List Value} (hS : RS base D cI cZ s H locs h) (hr : va_Run p l e R s m args below meth c H locs cells slots mc ms (F0 m pc ls st0) rest (QcW base D cI cZ h' v a) (Ab base)) (kk : ∀ (H1 : Heap) (locs1 : List Loc), RS base D cI cZ s H1 locs1 h' → W p l e R s m args below meth c H1 locs1 (cells + mc) (slots + ms) Q (F0 m (pc + 3) ls (v.toList ++ rest))) : W p l e R s m args below meth c H locs cells slots Q (F0 m pc ls st0) := by
  intro T hT X
  obtain ⟨v', st₀, t, T', L, h0, X', hL, e1, e2, ⟨hv, hb, hz, hk⟩, st⟩ := hr T hT X
  cases hv
  rw [h0] at hz hk
  obtain ⟨t2, a1, b1⟩ := kk T'.heap (locs ++ L) ⟨by rw [e1]; exact hb, Nat.le_trans hS.2.1 (by rw [e1]; exact hz), fun q h1 h2 => by rw [e1, hk q (Nat.lt_of_lt_of_le h1 hS.2.1) h2]; exact hS.2.2.1 q h1 h2, fun q hq => by
      rcases List.mem_append.mp hq with h | h
      · exact hS.2.2.2 q h
      · exact hL q h⟩ T' rfl X'
  exact ⟨t2, st t2 a1, b1⟩
theorem r_CB (C : Cx base D cI cZ cc nL own nam ret p s m args meth c) {y : MethodName} {b : ByteArray} {maxL fr lo mc ms n idx : Nat} {ret' : Option FieldType} (hcl : CLb y b maxL ret' n) (hlk : Cond.methodLink own idx y ∈ Tw) (hR : fr + 1 ≤ R.frames ∧ 8 + (maxL + 11) + lo ≤ R.locals) : CallB R s args own idx y b maxL ret' (Cond.code y b maxL ret' :: Tw) ({ frames := fr, cells := mc, slots := ms, locals := lo } : Room) mc ms n :=
  callB_of n C.2.2.2.2.1 (Tw_code hcl.1) rfl rfl rfl (C.2.2.2.2.1 _ hcl.2.1) (C.2.2.2.2.1 _ hlk) hcl.2.2 hR
theorem r_callV (C : Cx base D cI cZ cc nL own nam ret p s m args meth c) (hS : RS base D cI cZ s H locs h) {y : MethodName} {b : ByteArray} {maxL fr lo mc ms n idx ci r : Nat} {ret' : Option FieldType} {As st0 : List Value} {h' : Hp} {v : Option Value} (hcl : CV own idx ci y b maxL ret' n) (hM : Ct l base D cI cZ y b maxL ret' fr lo mc ms h (.ref (base + r) :: As) h' v) (hO : isO h ci r = true) (hn : As.length = n) (hls : ls.size = nL) (hst : st0 = As.reverse ++ .ref (base + r) :: rest) (hrest : (rest.map fun v => v.category).sum ≤ 8) (hR : fr + 1 ≤ R.frames ∧ 8 + (maxL + 11) + lo ≤ R.locals) (hf : cells + mc ≤ R.cells ∧ slots + ms ≤ R.slots) (hdg : decode cc pc = .ok (.invokevirtual idx, 3))
    (kk : ∀ (H1 : Heap) (locs1 : List Loc), RS base D cI cZ s H1 locs1 h' → W p l e R s m args below meth c H1 locs1 (cells + mc) (slots + ms) Q (F0 m (pc + 3) ls (v.toList ++ rest))) : W p l e R s m args below meth c H locs cells slots Q (F0 m pc ls st0) := by
  obtain ⟨hcb, hlk, hin, hse, hci⟩ := hcl
  obtain ⟨fs, hfs⟩ := isO_spec hO
  have hts := C.2.2.2.2.1
  have hK := C.2.2.2.2.2.2.2.1
  cases hq : vwCl[ci]? with
  | none => rw [hq] at hci; cases hci
  | some q =>
    rw [hq] at hci
    have hqn : q.1 = y.cls := Option.some.inj hci
    have hrec := va_recv (q := q) hK.1 hS.1.1 hq (wl_get hfs)
    rw [hqn] at hrec
    exact r_cont hS (va_runV (Ts := Tw) (own := own) (C := y.cls) ⟨C.1, C.2.1, C.2.2.1, C.2.2.2.1, hts⟩ hM ⟨r_CB C hcb hlk hR, hts _ hin, hts _ hse⟩ ⟨PcW.blind, hrec, fun U hU hW => ⟨rfl, by rw [hU]; exact hS.1, hK.warm hW⟩⟩ rfl hn hls hst (lv_room hrest) hdg hf) kk
theorem r_callS (C : Cx base D cI cZ cc nL own nam ret p s m args meth c) (hS : RS base D cI cZ s H locs h) {y : MethodName} {b : ByteArray} {maxL fr lo mc ms n idx : Nat} {ret' : Option FieldType} {As st0 : List Value} {h' : Hp} {v : Option Value} (hcl : CS own idx y b maxL ret' n) (hM : Ct l base D cI cZ y b maxL ret' fr lo mc ms h As h' v) (hn : As.length = n) (hls : ls.size = nL) (hst : st0 = As.reverse ++ rest) (hrest : (rest.map fun v => v.category).sum ≤ 8) (hR : fr + 1 ≤ R.frames ∧ 8 + (maxL + 11) + lo ≤ R.locals) (hf : cells + mc ≤ R.cells ∧ slots + ms ≤ R.slots) (hdg : decode cc pc = .ok (.invokestatic idx, 3))
    (kk : ∀ (H1 : Heap) (locs1 : List Loc), RS base D cI cZ s H1 locs1 h' → W p l e R s m args below meth c H1 locs1 (cells + mc) (slots + ms) Q (F0 m (pc + 3) ls (v.toList ++ rest))) : W p l e R s m args below meth c H locs cells slots Q (F0 m pc ls st0) := by
  obtain ⟨hcb, hlk, hst2⟩ := hcl
  have hts := C.2.2.2.2.1
  have hK := C.2.2.2.2.2.2.2.1
  exact r_cont hS (va_runS (Ts := Tw) (own := own) ⟨C.1, C.2.1, C.2.2.1, C.2.2.2.1, hts⟩ hM ⟨r_CB C hcb hlk hR, hts _ hst2⟩ ⟨PcW.blind, fun U hU hW => ⟨rfl, by rw [hU]; exact hS.1, hK.warm hW⟩⟩ rfl hn hls hst (lv_room hrest) hdg hf) kk
theorem r_callN (C : Cx base D cI cZ cc nL own nam ret p s m args meth c) (hS : RS base D cI cZ s H locs h) {y : MethodName} {b : ByteArray} {maxL fr lo mc ms n idx r : Nat} {host : String} {As st0 : List Value} {h' : Hp} {v : Option Value} (hcl : CN own idx y b maxL n host) (hM : Ct l base D cI cZ y b maxL none fr lo mc ms h (.ref (base + r) :: As) h' v) (hn : As.length = n) (hls : ls.size = nL) (hst : st0 = As.reverse ++ .ref (base + r) :: rest) (hrest : (rest.map fun v => v.category).sum ≤ 8) (hR : fr + 1 ≤ R.frames ∧ 8 + (maxL + 11) + lo ≤ R.locals) (hf : cells + mc ≤ R.cells ∧ slots + ms ≤ R.slots) (hdg : decode cc pc = .ok (.invokespecial idx, 3))
    (kk : ∀ (H1 : Heap) (locs1 : List Loc), RS base D cI cZ s H1 locs1 h' → W p l e R s m args below meth c H1 locs1 (cells + mc) (slots + ms) Q (F0 m (pc + 3) ls (v.toList ++ rest))) : W p l e R s m args below meth c H locs cells slots Q (F0 m pc ls st0) := by
  obtain ⟨hcb, hlk, hin, hnm⟩ := hcl
  have hts := C.2.2.2.2.1
  have hK := C.2.2.2.2.2.2.2.1
  exact r_cont hS (va_runIN (Ts := Tw) (own := own) ⟨C.1, C.2.1, C.2.2.1, C.2.2.2.1, hts⟩ hM ⟨va_cnB n hts (Tw_code hcb.1) rfl rfl rfl (hK.2 _ hlk) (hts _ hcb.2.1) hcb.2.2 hR, hnm, hts _ hin⟩ ⟨PcW.blind, fun U hU hW => ⟨rfl, by rw [hU]; exact hS.1, hK.warm hW⟩⟩ rfl hn hls hst (lv_room hrest) hdg hf) kk
theorem r_callI (C : Cx base D cI cZ cc nL own nam ret p s m args meth c) (hS : RS base D cI cZ s H locs h) {y : MethodName} {b : ByteArray} {maxL fr lo mc ms n idx r : Nat} {As st0 : List Value} {h' : Hp} {v : Option Value} (hcl : CI own idx y b maxL n) (hM : Ct l base D cI cZ y b maxL none fr lo mc ms h (.ref (base + r) :: As) h' v) (hn : As.length = n) (hls : ls.size = nL) (hst : st0 = As.reverse ++ .ref (base + r) :: rest) (hrest : (rest.map fun v => v.category).sum ≤ 8) (hR : fr + 1 ≤ R.frames ∧ 8 + (maxL + 11) + lo ≤ R.locals) (hf : cells + mc ≤ R.cells ∧ slots + ms ≤ R.slots) (hdg : decode cc pc = .ok (.invokespecial idx, 3))
    (kk : ∀ (H1 : Heap) (locs1 : List Loc), RS base D cI cZ s H1 locs1 h' → W p l e R s m args below meth c H1 locs1 (cells + mc) (slots + ms) Q (F0 m (pc + 3) ls (v.toList ++ rest))) : W p l e R s m args below meth c H locs cells slots Q (F0 m pc ls st0) := by
  obtain ⟨hcb, hlk, hin, hnm⟩ := hcl
  have hts := C.2.2.2.2.1
  have hK := C.2.2.2.2.2.2.2.1
  exact r_cont hS (va_runI (Ts := Tw) (own := own) ⟨C.1, C.2.1, C.2.2.1, C.2.2.2.1, hts⟩ hM ⟨r_CB C hcb hlk hR, hnm, hts _ hin⟩ ⟨PcW.blind, fun U hU hW => ⟨rfl, by rw [hU]; exact hS.1, hK.warm hW⟩⟩ rfl hn hls hst (lv_room hrest) hdg hf) kk
theorem r_obj (C : Cx base D cI cZ cc nL own nam ret p s m args meth c) {idx r : Nat} (hoi : OI own idx) (hls : ls.size = nL) (hrest : (rest.map fun v => v.category).sum = 0) (hR : 1 ≤ R.frames ∧ 12 ≤ R.locals) (hdg : decode cc pc = .ok (.invokespecial idx, 3)) (kk : W p l e R s m args below meth c H locs cells slots Q (F0 m (pc + 3) ls rest)) : W p l e R s m args below meth c H locs cells slots Q (F0 m pc ls (.ref r :: rest)) := by
  have hts := C.2.2.2.2.1
  refine W.objInit C.1 C.2.1 C.2.2.2.1 (hts _ hoi.1) (hts _ hoi.2.1) (hts _ hoi.2.2) rfl (by rw [C.2.2.1]; exact hls) rfl hdg hR.1 ?_ kk
  show 2 * 0 + (rest.map fun v => v.category).sum + 12 ≤ R.locals
  rw [hrest]
  exact hR.2
theorem r_new (C : Cx base D cI cZ cc nL own nam ret p s m args meth c) (hS : RS base D cI cZ s H locs h) {idx ci N : Nat} {fs : List Value} (hw : NW own idx ci fs N) (hcells : cells + 1 ≤ R.cells) (hslots : slots + N ≤ R.slots) (hdg : decode cc pc = .ok (.new idx, 3))
    (kk : ∀ (H1 : Heap), RS base D cI cZ s H1 locs (h ++ [.inr (ci, fs)]) → W p l e R s m args below meth c H1 locs (cells + 1) (slots + N) Q (F0 m (pc + 3) ls (.ref (base + h.length) :: rest))) : W p l e R s m args below meth c H locs cells slots Q (F0 m pc ls rest) := by
  obtain ⟨Cn, T, ty0, hc, hin, hty, hcl, hinst, hini, hfs, hnr⟩ := hw
  obtain ⟨hx, hb, -, hown, hts, -, -, hK0, hbs, -⟩ := C
  have hKn := hK0.1.1 ci _ hc
  refine W.newcK hx hb hown (hts _ hcl) (hts _ hinst) (hts _ hini) rfl hdg hcells hslots hKn.2.1 hS.1.2 fun H1 kC hkC e1 z1 o1 => ?_
  have hk : ∀ (k : Nat) (x : Nat × va_E), (wl base cI cZ h)[k]? = some x → H1[x.1]? = H[x.1]? := fun k x hx => o1 x.1 (by rw [← hS.1.2]; exact (hS.1.1 k x hx).lt)
  refine kk H1 ⟨⟨?_, ?_⟩, ⟨Nat.le_trans hS.2.1 (by rw [z1, hS.1.2]; omega), fun x h1 h2 => (o1 x (by rw [← hS.1.2]; exact Nat.lt_of_lt_of_le h1 hS.2.1)).trans (hS.2.2.1 x h1 h2), hS.2.2.2⟩⟩
  · rw [wl_push]
    refine (hS.1.1.kept hk).app (fun k x hx => ?_)
    have hz : k < 1 := (List.getElem?_eq_some_iff.mp hx).1
    rw [show k = 0 by omega] at hx
    cases hx
    show ∃ r : vw_C, vwCl[ci]? = some r ∧ t_OB (base + h.length) (D.1 ci) r.2.2 (D.2 ci) H1 (vp_V (fs.map (cv base)))
    rw [hnr]
    exact ⟨_, hc, (u_born ty0 hts hin hKn hkC e1 hty).to hfs⟩
  · rw [z1]
    simp
    omega
theorem r_newI (C : Cx base D cI cZ cc nL own nam ret p s m args meth c) (hS : RS base D cI cZ s H locs h) {n : Int32} {N : Nat} (hac : Cond.arrayClass .int ∈ Tw) (hn : ¬ n < 0) (hN : n.toNatClampNeg = N) (hby : N * componentBytes .int ≤ 536870912) (hcells : cells + 1 ≤ R.cells) (hslots : slots + N ≤ R.slots) (hdg : decode cc pc = .ok (.newarray .int, 2))
    (kk : ∀ (H1 : Heap), RS base D cI cZ s H1 locs (h ++ [.inl (false, N, fun _ => 0)]) → W p l e R s m args below meth c H1 locs (cells + 1) (slots + N) Q (F0 m (pc + 2) ls (.ref (base + h.length) :: rest))) : W p l e R s m args below meth c H locs cells slots Q (F0 m pc ls (.int n :: rest)) := by
  obtain ⟨hx, hb, -, hown, hts, -, -, hK0, hbs, -⟩ := C
  refine va_newaK (atype := .int) hx hb (hts _ hac) rfl hdg rfl hn hN hby hcells hslots hS.1.2 fun H1 cA e1 z1 o1 hAr hNm => ?_
  have hcA : cA = cI := Option.some.inj (hNm.symm.trans (hK0.1.2 0 (cI, .int) rfl).2)
  have hk : ∀ (k : Nat) (x : Nat × va_E), (wl base cI cZ h)[k]? = some x → H1[x.1]? = H[x.1]? := fun k x hx => o1 x.1 (by rw [← hS.1.2]; exact (hS.1.1 k x hx).lt)
  refine kk H1 ⟨⟨?_, ?_⟩, ⟨Nat.le_trans hS.2.1 (by rw [z1, hS.1.2]; omega), fun x h1 h2 => (o1 x (by rw [← hS.1.2]; exact Nat.lt_of_lt_of_le h1 hS.2.1)).trans (hS.2.2.1 x h1 h2), hS.2.2.2⟩⟩
  · rw [wl_push]
    refine (hS.1.1.kept hk).app (fun k x hx => ?_)
    have hz : k < 1 := (List.getElem?_eq_some_iff.mp hx).1
    rw [show k = 0 by omega] at hx
    cases hx
    show H1[base + h.length]? = some (vp_cell cI (N, .inl (fun _ => 0)))
    rw [e1, hcA]
    rfl
  · rw [z1]
    simp
    omega
theorem r_newZ (C : Cx base D cI cZ cc nL own nam ret p s m args meth c) (hS : RS base D cI cZ s H locs h) {n : Int32} {N : Nat} (hac : Cond.arrayClass .boolean ∈ Tw) (hn : ¬ n < 0) (hN : n.toNatClampNeg = N) (hby : N * componentBytes .boolean ≤ 536870912) (hcells : cells + 1 ≤ R.cells) (hslots : slots + N ≤ R.slots) (hdg : decode cc pc = .ok (.newarray .boolean, 2))
    (kk : ∀ (H1 : Heap), RS base D cI cZ s H1 locs (h ++ [.inl (true, N, fun _ => 0)]) → W p l e R s m args below meth c H1 locs (cells + 1) (slots + N) Q (F0 m (pc + 2) ls (.ref (base + h.length) :: rest))) : W p l e R s m args below meth c H locs cells slots Q (F0 m pc ls (.int n :: rest)) := by
  obtain ⟨hx, hb, -, hown, hts, -, -, hK0, hbs, -⟩ := C
  refine va_newaK (atype := .boolean) hx hb (hts _ hac) rfl hdg rfl hn hN hby hcells hslots hS.1.2 fun H1 cA e1 z1 o1 hAr hNm => ?_
  have hcA : cA = cZ := Option.some.inj (hNm.symm.trans (hK0.1.2 1 (cZ, .boolean) rfl).2)
  have hk : ∀ (k : Nat) (x : Nat × va_E), (wl base cI cZ h)[k]? = some x → H1[x.1]? = H[x.1]? := fun k x hx => o1 x.1 (by rw [← hS.1.2]; exact (hS.1.1 k x hx).lt)
  refine kk H1 ⟨⟨?_, ?_⟩, ⟨Nat.le_trans hS.2.1 (by rw [z1, hS.1.2]; omega), fun x h1 h2 => (o1 x (by rw [← hS.1.2]; exact Nat.lt_of_lt_of_le h1 hS.2.1)).trans (hS.2.2.1 x h1 h2), hS.2.2.2⟩⟩
  · rw [wl_push]
    refine (hS.1.1.kept hk).app (fun k x hx => ?_)
    have hz : k < 1 := (List.getElem?_eq_some_iff.mp hx).1
    rw [show k = 0 by omega] at hx
    cases hx
    show H1[base + h.length]? = some (vp_cell cZ (N, .inl (fun _ => 0)))
    rw [e1, hcA]
    rfl
  · rw [z1]
    simp
    omega
-- ===== ends =====
theorem r_iret (C : Cx base D cI cZ cc nL own nam (some .int) p s m args meth c) (hS : RS base D cI cZ s H locs h) {v : Int32} (hdg : decode cc pc = .ok (.ireturn, 1)) : W p l e R s m args below meth c H locs cells slots (MQ below (QcW base D cI cZ h (some (.int v))) args s cells slots (Ab base)) (F0 m pc ls [.int v]) :=
  W.iret C.1 C.2.1 C.2.2.2.2.2.1 (fun t ht hW => ⟨rfl, by rw [ht]; exact hS.1, hS.2.F ht⟩) hS.2.2.2 hdg C.2.2.2.2.2.2.1
theorem r_zret (C : Cx base D cI cZ cc nL own nam (some .boolean) p s m args meth c) (hS : RS base D cI cZ s H locs h) {v z : Int32} (hz : rz v = some z) (hdg : decode cc pc = .ok (.ireturn, 1)) : W p l e R s m args below meth c H locs cells slots (MQ below (QcW base D cI cZ h (some (.int z))) args s cells slots (Ab base)) (F0 m pc ls [.int v]) := by
  obtain ⟨rfl, hn⟩ := rz_spec hz
  exact W.zret C.1 C.2.1 C.2.2.2.2.2.1 hn (fun t ht hW => ⟨rfl, by rw [ht]; exact hS.1, hS.2.F ht⟩) hS.2.2.2 hdg C.2.2.2.2.2.2.1
theorem r_lret (C : Cx base D cI cZ cc nL own nam (some .long) p s m args meth c) (hS : RS base D cI cZ s H locs h) {v : Int64} (hdg : decode cc pc = .ok (.lreturn, 1)) : W p l e R s m args below meth c H locs cells slots (MQ below (QcW base D cI cZ h (some (.long v))) args s cells slots (Ab base)) (F0 m pc ls [.long v]) :=
  W.lret C.1 C.2.1 C.2.2.2.2.2.1 (fun t ht hW => ⟨rfl, by rw [ht]; exact hS.1, hS.2.F ht⟩) hS.2.2.2 hdg C.2.2.2.2.2.2.1
theorem r_aret {rt : String} (C : Cx base D cI cZ cc nL own nam (some (.object rt)) p s m args meth c) (hS : RS base D cI cZ s H locs h) {v : Nat} (hdg : decode cc pc = .ok (.areturn, 1)) : W p l e R s m args below meth c H locs cells slots (MQ below (QcW base D cI cZ h (some (.ref (base + v)))) args s cells slots (Ab base)) (F0 m pc ls [.ref (base + v)]) :=
  W.aret C.1 C.2.1 C.2.2.2.2.2.1 (Or.inl ⟨_, rfl⟩) (Or.inr ⟨_, rfl⟩) (fun t ht hW => ⟨rfl, by rw [ht]; exact hS.1, hS.2.F ht⟩) hS.2.2.2 hdg C.2.2.2.2.2.2.1
theorem r_vret (C : Cx base D cI cZ cc nL own nam none p s m args meth c) (hS : RS base D cI cZ s H locs h) (hdg : decode cc pc = .ok (.return_, 1)) : W p l e R s m args below meth c H locs cells slots (MQ below (QcW base D cI cZ h none) args s cells slots (Ab base)) (F0 m pc ls []) :=
  W.vret C.1 C.2.1 C.2.2.2.2.2.1 (fun t ht hW => ⟨rfl, by rw [ht]; exact hS.1, hS.2.F ht⟩) hS.2.2.2 hdg C.2.2.2.2.2.2.1
end RC
/-- a contract out of the walk of the body -/
theorem ct_of {l : Launch} {base : Nat} {D : va_G} {cI cZ : ClassId} {y : MethodName} {b : ByteArray} {nL : Nat} {ret : Option FieldType} {fr lo mc ms : Nat} {h : Hp} {av : List Value} {h' : Hp} {v : Option Value} (hy : plainName y.cls = true) (hav : (lg_sl av).length ≤ nL)
    (body : ∀ (p : Program) (e : Env) (s : State) (m : MethodId) (below : List Frame) (meth : Method) (c : Code) (ls : Array Slot), Cx base D cI cZ b nL y.cls y.name ret p s m av.toArray meth c → RS base D cI cZ s s.heap [] h → lv_has ls nL (lv_args 0 av) →
      W p l e ({ frames := fr, cells := mc, slots := ms, locals := lo } : Room) s m av.toArray below meth c s.heap [] 0 0 (MQ below (QcW base D cI cZ h' v) av.toArray s mc ms (Ab base)) (F0 m 0 ls [])) : Ct l base D cI cZ y b nL ret fr lo mc ms h av h' v := by
  refine Met.ofW (cc := b) (maxL := nL) (ret := ret) hy rfl ?_
  intro p e s m args below meth c s₁ B hml hv
  obtain ⟨rfl, hRep, hK⟩ := hv
  have hts0 := atoms_spec (ws := Cond.code y b nL ret :: Tw) B.pre
  rw [lg_entry_eq]
  exact body p e s m below meth c _ ⟨B.exec, B.bytes, hml, findClass_of_methodNamed B.named, fun w hw => hts0 w (List.mem_cons_of_mem _ hw), B.returns, B.notSynchronized, hK, by rw [hRep.2]; exact Nat.le_add_right _ _, (name_of_methodNamed B.named B.method).1⟩ ⟨hRep, va_S.rf⟩ (lv_entry av hav)
-- ===== rows of the printed walks =====
theorem oi_1 : Int32.ofInt 1 = (1 : Int32) := by first | rfl | decide
theorem oi_5 : Int32.ofInt 5 = (5 : Int32) := by first | rfl | decide
theorem oi_m1 : Int32.ofInt (-1) = (-1 : Int32) := by first | rfl | decide
abbrev Wg (l : Launch) (base : Nat) (D : va_G) (cI cZ : ClassId) (fr lo mc ms : Nat) (h' : Hp) (v : Option Value) (p : Program) (e : Env) (s : State) (m : MethodId) (args : Array Value) (below : List Frame) (meth : Method) (c : Code) (H : Heap) (locs : List Loc) (cells slots : Nat) (g : JFrame) : Prop :=
  W p l e ({ frames := fr, cells := mc, slots := ms, locals := lo } : Room) s m args below meth c H locs cells slots (MQ below (QcW base D cI cZ h' v) args s mc ms (Ab base)) g
section RD
variable {p : Program} {l : Launch} {e : Env} {R : Room} {s : State} {m : MethodId} {args : Array Value} {below : List Frame} {meth : Method} {c : Code} {H : Heap} {locs : List Loc} {cells slots : Nat} {Q : State → Prop}
variable {cc : ByteArray} {nL : Nat} {own nam : String} {ret : Option FieldType} {base : Nat} {D : va_G} {cI cZ : ClassId} {h : Hp} {pc : Nat} {ls : Array Slot} {rest : List Value}
theorem r_irem (hx : p.tables.exec = Jvm.exec) (hb : c.code = cc) {x y : Int32} (hdg : decode cc pc = .ok (.irem, 1)) (hne : ¬ y = 0) (k : W p l e R s m args below meth c H locs cells slots Q (F0 m (pc + 1) ls (.int (irem x y) :: rest))) : W p l e R s m args below meth c H locs cells slots Q (F0 m pc ls (.int y :: .int x :: rest)) := lv_irem hx hb hdg hne k
theorem r_idivS (hx : p.tables.exec = Jvm.exec) (hb : c.code = cc) {x y z : Int32} (hdg : decode cc pc = .ok (.idiv, 1)) (hz : idv x y = some z) (k : W p l e R s m args below meth c H locs cells slots Q (F0 m (pc + 1) ls (.int z :: rest))) : W p l e R s m args below meth c H locs cells slots Q (F0 m pc ls (.int y :: .int x :: rest)) := by
  obtain ⟨h1, rfl⟩ := idv_spec hz
  exact lv_idiv hx hb hdg h1 k
theorem r_iremS (hx : p.tables.exec = Jvm.exec) (hb : c.code = cc) {x y z : Int32} (hdg : decode cc pc = .ok (.irem, 1)) (hz : irm x y = some z) (k : W p l e R s m args below meth c H locs cells slots Q (F0 m (pc + 1) ls (.int z :: rest))) : W p l e R s m args below meth c H locs cells slots Q (F0 m pc ls (.int y :: .int x :: rest)) := by
  obtain ⟨h1, rfl⟩ := irm_spec hz
  exact lv_irem hx hb hdg h1 k
/-- a tableswitch's default: out of its rows, or at a row that leads there too -/
theorem r_tabD (hx : p.tables.exec = Jvm.exec) (hb : c.code = cc) {dflt lo hi : Int} {offs : Array Int} {len : Nat} {x : Int32} {tgt : Nat} (hdg : decode cc pc = .ok (.tableswitch dflt lo hi offs, len)) (keys : List Int) (hk : ∀ k ∈ keys, ¬ x.toInt = k) (hall : ∀ j : Nat, j < (hi - lo + 1).toNat → offs[j]? = some dflt ∨ (lo + (j : Int)) ∈ keys) (ht : (pc : Int) + dflt = (tgt : Int)) (k : W p l e R s m args below meth c H locs cells slots Q (F0 m tgt ls rest)) : W p l e R s m args below meth c H locs cells slots Q (F0 m pc ls (.int x :: rest)) := by
  by_cases h0 : x.toInt < lo ∨ hi < x.toInt
  · exact lv_tableOut hx hb hdg h0 ht k
  · have h1 : ¬ x.toInt < lo := fun q => h0 (Or.inl q)
    have h2 : ¬ hi < x.toInt := fun q => h0 (Or.inr q)
    rcases hall (x.toInt - lo).toNat (by omega) with q | q
    · exact lv_tableIn hx hb hdg h1 h2 q ht k
    · exact absurd (by omega) (hk _ q)
theorem r_callVi (C : Cx base D cI cZ cc nL own nam ret p s m args meth c) (hS : RS base D cI cZ s H locs h) {y : MethodName} {b : ByteArray} {maxL fr lo n idx ci r : Nat} {ret' : Option FieldType} {As st0 : List Value} {h' : Hp} {x : Int32} (hcl : CV own idx ci y b maxL ret' n) (hM : Ct l base D cI cZ y b maxL ret' fr lo 0 0 h (.ref (base + r) :: As) h' (some (.int x))) (hO : isO h ci r = true) (hn : As.length = n) (hls : ls.size = nL) (hst : st0 = As.reverse ++ .ref (base + r) :: rest) (hrest : (rest.map fun v => v.category).sum ≤ 8) (hR : fr + 1 ≤ R.frames ∧ 8 + (maxL + 11) + lo ≤ R.locals) (hf : cells + 0 ≤ R.cells ∧ slots + 0 ≤ R.slots) (hdg : decode cc pc = .ok (.invokevirtual idx, 3))
    (kk : ∀ (H1 : Heap) (locs1 : List Loc), RS base D cI cZ s H1 locs1 h' → W p l e R s m args below meth c H1 locs1 cells slots Q (F0 m (pc + 3) ls (.int x :: rest))) : W p l e R s m args below meth c H locs cells slots Q (F0 m pc ls st0) := r_callV C hS hcl hM hO hn hls hst hrest hR hf hdg kk
theorem r_callVl (C : Cx base D cI cZ cc nL own nam ret p s m args meth c) (hS : RS base D cI cZ s H locs h) {y : MethodName} {b : ByteArray} {maxL fr lo n idx ci r : Nat} {ret' : Option FieldType} {As st0 : List Value} {h' : Hp} {x : Int64} (hcl : CV own idx ci y b maxL ret' n) (hM : Ct l base D cI cZ y b maxL ret' fr lo 0 0 h (.ref (base + r) :: As) h' (some (.long x))) (hO : isO h ci r = true) (hn : As.length = n) (hls : ls.size = nL) (hst : st0 = As.reverse ++ .ref (base + r) :: rest) (hrest : (rest.map fun v => v.category).sum ≤ 8) (hR : fr + 1 ≤ R.frames ∧ 8 + (maxL + 11) + lo ≤ R.locals) (hf : cells + 0 ≤ R.cells ∧ slots + 0 ≤ R.slots) (hdg : decode cc pc = .ok (.invokevirtual idx, 3))
    (kk : ∀ (H1 : Heap) (locs1 : List Loc), RS base D cI cZ s H1 locs1 h' → W p l e R s m args below meth c H1 locs1 cells slots Q (F0 m (pc + 3) ls (.long x :: rest))) : W p l e R s m args below meth c H locs cells slots Q (F0 m pc ls st0) := r_callV C hS hcl hM hO hn hls hst hrest hR hf hdg kk
theorem r_callVr (C : Cx base D cI cZ cc nL own nam ret p s m args meth c) (hS : RS base D cI cZ s H locs h) {y : MethodName} {b : ByteArray} {maxL fr lo n idx ci r : Nat} {ret' : Option FieldType} {As st0 : List Value} {h' : Hp} {x : Nat} (hcl : CV own idx ci y b maxL ret' n) (hM : Ct l base D cI cZ y b maxL ret' fr lo 0 0 h (.ref (base + r) :: As) h' (some (.ref (base + x)))) (hO : isO h ci r = true) (hn : As.length = n) (hls : ls.size = nL) (hst : st0 = As.reverse ++ .ref (base + r) :: rest) (hrest : (rest.map fun v => v.category).sum ≤ 8) (hR : fr + 1 ≤ R.frames ∧ 8 + (maxL + 11) + lo ≤ R.locals) (hf : cells + 0 ≤ R.cells ∧ slots + 0 ≤ R.slots) (hdg : decode cc pc = .ok (.invokevirtual idx, 3))
    (kk : ∀ (H1 : Heap) (locs1 : List Loc), RS base D cI cZ s H1 locs1 h' → W p l e R s m args below meth c H1 locs1 cells slots Q (F0 m (pc + 3) ls (.ref (base + x) :: rest))) : W p l e R s m args below meth c H locs cells slots Q (F0 m pc ls st0) := r_callV C hS hcl hM hO hn hls hst hrest hR hf hdg kk
theorem r_callVv (C : Cx base D cI cZ cc nL own nam ret p s m args meth c) (hS : RS base D cI cZ s H locs h) {y : MethodName} {b : ByteArray} {maxL fr lo n idx ci r : Nat} {ret' : Option FieldType} {As st0 : List Value} {h' : Hp} (hcl : CV own idx ci y b maxL ret' n) (hM : Ct l base D cI cZ y b maxL ret' fr lo 0 0 h (.ref (base + r) :: As) h' none) (hO : isO h ci r = true) (hn : As.length = n) (hls : ls.size = nL) (hst : st0 = As.reverse ++ .ref (base + r) :: rest) (hrest : (rest.map fun v => v.category).sum ≤ 8) (hR : fr + 1 ≤ R.frames ∧ 8 + (maxL + 11) + lo ≤ R.locals) (hf : cells + 0 ≤ R.cells ∧ slots + 0 ≤ R.slots) (hdg : decode cc pc = .ok (.invokevirtual idx, 3))
    (kk : ∀ (H1 : Heap) (locs1 : List Loc), RS base D cI cZ s H1 locs1 h' → W p l e R s m args below meth c H1 locs1 cells slots Q (F0 m (pc + 3) ls rest)) : W p l e R s m args below meth c H locs cells slots Q (F0 m pc ls st0) := r_callV C hS hcl hM hO hn hls hst hrest hR hf hdg kk
theorem r_callSi (C : Cx base D cI cZ cc nL own nam ret p s m args meth c) (hS : RS base D cI cZ s H locs h) {y : MethodName} {b : ByteArray} {maxL fr lo n idx : Nat} {ret' : Option FieldType} {As st0 : List Value} {h' : Hp} {x : Int32} (hcl : CS own idx y b maxL ret' n) (hM : Ct l base D cI cZ y b maxL ret' fr lo 0 0 h As h' (some (.int x))) (hn : As.length = n) (hls : ls.size = nL) (hst : st0 = As.reverse ++ rest) (hrest : (rest.map fun v => v.category).sum ≤ 8) (hR : fr + 1 ≤ R.frames ∧ 8 + (maxL + 11) + lo ≤ R.locals) (hf : cells + 0 ≤ R.cells ∧ slots + 0 ≤ R.slots) (hdg : decode cc pc = .ok (.invokestatic idx, 3))
    (kk : ∀ (H1 : Heap) (locs1 : List Loc), RS base D cI cZ s H1 locs1 h' → W p l e R s m args below meth c H1 locs1 cells slots Q (F0 m (pc + 3) ls (.int x :: rest))) : W p l e R s m args below meth c H locs cells slots Q (F0 m pc ls st0) := r_callS C hS hcl hM hn hls hst hrest hR hf hdg kk
theorem r_callSl (C : Cx base D cI cZ cc nL own nam ret p s m args meth c) (hS : RS base D cI cZ s H locs h) {y : MethodName} {b : ByteArray} {maxL fr lo n idx : Nat} {ret' : Option FieldType} {As st0 : List Value} {h' : Hp} {x : Int64} (hcl : CS own idx y b maxL ret' n) (hM : Ct l base D cI cZ y b maxL ret' fr lo 0 0 h As h' (some (.long x))) (hn : As.length = n) (hls : ls.size = nL) (hst : st0 = As.reverse ++ rest) (hrest : (rest.map fun v => v.category).sum ≤ 8) (hR : fr + 1 ≤ R.frames ∧ 8 + (maxL + 11) + lo ≤ R.locals) (hf : cells + 0 ≤ R.cells ∧ slots + 0 ≤ R.slots) (hdg : decode cc pc = .ok (.invokestatic idx, 3))
    (kk : ∀ (H1 : Heap) (locs1 : List Loc), RS base D cI cZ s H1 locs1 h' → W p l e R s m args below meth c H1 locs1 cells slots Q (F0 m (pc + 3) ls (.long x :: rest))) : W p l e R s m args below meth c H locs cells slots Q (F0 m pc ls st0) := r_callS C hS hcl hM hn hls hst hrest hR hf hdg kk
theorem r_callSv (C : Cx base D cI cZ cc nL own nam ret p s m args meth c) (hS : RS base D cI cZ s H locs h) {y : MethodName} {b : ByteArray} {maxL fr lo n idx : Nat} {ret' : Option FieldType} {As st0 : List Value} {h' : Hp} (hcl : CS own idx y b maxL ret' n) (hM : Ct l base D cI cZ y b maxL ret' fr lo 0 0 h As h' none) (hn : As.length = n) (hls : ls.size = nL) (hst : st0 = As.reverse ++ rest) (hrest : (rest.map fun v => v.category).sum ≤ 8) (hR : fr + 1 ≤ R.frames ∧ 8 + (maxL + 11) + lo ≤ R.locals) (hf : cells + 0 ≤ R.cells ∧ slots + 0 ≤ R.slots) (hdg : decode cc pc = .ok (.invokestatic idx, 3))
    (kk : ∀ (H1 : Heap) (locs1 : List Loc), RS base D cI cZ s H1 locs1 h' → W p l e R s m args below meth c H1 locs1 cells slots Q (F0 m (pc + 3) ls rest)) : W p l e R s m args below meth c H locs cells slots Q (F0 m pc ls st0) := r_callS C hS hcl hM hn hls hst hrest hR hf hdg kk
end RD
-- ===== Math.max, Math.min =====
def mxI (x y : Int32) : Int32 := if x < y then y else x
def mnI (x y : Int32) : Int32 := if y < x then y else x
def mnL (x y : Int64) : Int64 := if y < x then y else x
def MX (own : String) (idx : Nat) : Prop := Cond.methodLink own idx Lib.Math.max.name ∈ Tw ∧ Cond.static Lib.Math.max.name ∈ Tw ∧ Cond.initialized "java/lang/Math" ∈ Tw ∧ Cond.code Lib.Math.max.name Lib.Math.max.code 2 (some .int) ∈ Tw
def MN (own : String) (idx : Nat) : Prop := Cond.methodLink own idx Lib.Math.min.name ∈ Tw ∧ Cond.static Lib.Math.min.name ∈ Tw ∧ Cond.initialized "java/lang/Math" ∈ Tw ∧ Cond.code Lib.Math.min.name Lib.Math.min.code 2 (some .int) ∈ Tw
def ML (own : String) (idx : Nat) : Prop := Cond.methodLink own idx Lib.MathLoose.min_long.x ∈ Tw ∧ Cond.static Lib.MathLoose.min_long.x ∈ Tw ∧ Cond.initialized "java/lang/Math" ∈ Tw ∧ Cond.code Lib.MathLoose.min_long.x Lib.MathLoose.min_long.code 4 (some .long) ∈ Tw
section RM
variable {p : Program} {l : Launch} {e : Env} {R : Room} {s : State} {m : MethodId} {args : Array Value} {below : List Frame} {meth : Method} {c : Code} {H : Heap} {locs : List Loc} {cells slots : Nat} {Q : State → Prop}
variable {cc : ByteArray} {nL : Nat} {own nam : String} {ret : Option FieldType} {base : Nat} {D : va_G} {cI cZ : ClassId} {h : Hp} {pc : Nat} {ls : Array Slot} {rest : List Value}
theorem r_max (C : Cx base D cI cZ cc nL own nam ret p s m args meth c) {idx : Nat} (hm : MX own idx) (hls : ls.size = nL) (hR : 1 ≤ R.frames ∧ (rest.map fun v => v.category).sum + 13 ≤ R.locals) (hf : cells ≤ R.cells ∧ slots ≤ R.slots) {x y : Int32} (hdg : decode cc pc = .ok (.invokestatic idx, 3)) (kk : W p l e R s m args below meth c H locs cells slots Q (F0 m (pc + 3) ls (.int (mxI x y) :: rest))) : W p l e R s m args below meth c H locs cells slots Q (F0 m pc ls (.int y :: .int x :: rest)) :=
  va_mmax C.1 C.2.1 (by rw [C.2.2.1]; exact hls.symm) C.2.2.2.1 (C.2.2.2.2.1 _ hm.1) (C.2.2.2.2.1 _ hm.2.1) (C.2.2.2.2.1 _ hm.2.2.1) (C.2.2.2.2.1 _ hm.2.2.2) hR.1 hR.2 hf.1 hf.2 hdg kk
theorem r_min (C : Cx base D cI cZ cc nL own nam ret p s m args meth c) {idx : Nat} (hm : MN own idx) (hls : ls.size = nL) (hR : 1 ≤ R.frames ∧ (rest.map fun v => v.category).sum + 13 ≤ R.locals) (hf : cells ≤ R.cells ∧ slots ≤ R.slots) {x y : Int32} (hdg : decode cc pc = .ok (.invokestatic idx, 3)) (kk : W p l e R s m args below meth c H locs cells slots Q (F0 m (pc + 3) ls (.int (mnI x y) :: rest))) : W p l e R s m args below meth c H locs cells slots Q (F0 m pc ls (.int y :: .int x :: rest)) :=
  va_mmin C.1 C.2.1 (by rw [C.2.2.1]; exact hls.symm) C.2.2.2.1 (C.2.2.2.2.1 _ hm.1) (C.2.2.2.2.1 _ hm.2.1) (C.2.2.2.2.1 _ hm.2.2.1) (C.2.2.2.2.1 _ hm.2.2.2) hR.1 hR.2 hf.1 hf.2 hdg kk
theorem r_minL (C : Cx base D cI cZ cc nL own nam ret p s m args meth c) {idx : Nat} (hm : ML own idx) (hls : ls.size = nL) (hR : 1 ≤ R.frames ∧ (rest.map fun v => v.category).sum + 15 ≤ R.locals) (hf : cells ≤ R.cells ∧ slots ≤ R.slots) {x y : Int64} (hdg : decode cc pc = .ok (.invokestatic idx, 3)) (kk : W p l e R s m args below meth c H locs cells slots Q (F0 m (pc + 3) ls (.long (mnL x y) :: rest))) : W p l e R s m args below meth c H locs cells slots Q (F0 m pc ls (.long y :: .long x :: rest)) :=
  va_mmin_long C.1 C.2.1 (by rw [C.2.2.1]; exact hls.symm) C.2.2.2.1 (C.2.2.2.2.1 _ hm.1) (C.2.2.2.2.1 _ hm.2.1) (C.2.2.2.2.1 _ hm.2.2.1) (C.2.2.2.2.1 _ hm.2.2.2) hR.1 hR.2 hf.1 hf.2 hdg kk
end RM
