def R_law : String := "MovedFoldersLaw"
def lw_P (b : Addr) (xs : List Int32) (args : Array Value) (s : State) : Prop := args = #[.ref b] ∧ s.IntsAt b xs ∧ xs.length ≤ 2560 ∧ (Jvm.Cond.and given_1 narrow_1).before args s = true
def lw_Q (_ : Array Value) (s : State) (o : Outcome) (t : State) : Prop := o = .returned (some (.int 1)) ∧ Framed s o t [] 81 3405
def lw_Z (below : List Frame) (a : Array Value) (s : State) : State → Prop := fun t => ∃ o, t.status = .running ∧ Ended t below o ∧ lw_Q a s o t
/-- the law's own end, with 1 on the stack, nothing written that was there before, its room as the claim has it -/
theorem lw_ret {p : Program} {l : Launch} {e : Env} {s : State} {m : MethodId} {below : List Frame} {meth : Method} {c : Code} {b : Nat} (hx : p.tables.exec = Jvm.exec) (hb : c.code = code) (hr : meth.sig.returnType = ret) (hlocks : meth.locks = false) {pc : Nat} {H : Heap} {ls : Array Slot} (hdg : decode code pc = .ok (.ireturn, 1)) : W p l e room_1 s m #[Value.ref b] below meth c H [] 81 3405 (lw_Z below #[Value.ref b] s) (F0 m pc ls [.int 1]) := by
  intro T hT X
  obtain ⟨fs, hret, hrun, hended, hW, hframe⟩ := X.leave (v := some (.int 1)) (hlocks := hlocks) (fun h => by rw [hr] at h; cases h)
  have hmeth' : T.vm.method? m = some meth := X.method'
  refine ⟨T.setFrames fs, ?_, .returned (some (.int 1)), hrun, hended, rfl, ⟨_, rfl⟩, hW, hframe⟩
  jvm_step X.here [X.here.top, hx, hb, hdg, hmeth', hr, ret, narrow_b1]
  (try refine ⟨rfl, ?_⟩); (try refine ⟨rfl, ?_⟩)
  first | (intro acts; rw [hret _ acts rfl rfl rfl]) | rw [hret _ _ rfl rfl rfl]
  exact Steps.refl _
/-- what holds at the law's entry: the machine, the code, the tables' words (any of lw_tbl by 'hts w (by decide +kernel)'), the script of L ints xs at the cell b, what the Statement gives of the start (any of its parts by flat_of_before) -/
def lw_At (p : Program) (s : State) (m : MethodId) (meth : Method) (c : Code) (b L : Nat) (xs : Nat → Int32) : Prop :=
  p.tables.exec = Jvm.exec ∧ c.code = code ∧ meth.sig.returnType = ret ∧ c.maxLocals = 4 ∧ s.vm.findClass R_law = some m.cls ∧ (∀ w ∈ lw_tbl, w.before #[Value.ref b] s = true) ∧ va_X b L xs s s.heap ∧ b < s.heap.size ∧ meth.locks = false ∧ (Jvm.Cond.and given_1 narrow_1).before #[Value.ref b] s = true
def gX (xs : Nat → Int32) (L : Nat) (i : Int32) : Option Int32 := if ix i L = true then some (xs i.toNatClampNeg) else none
theorem gX_spec {xs : Nat → Int32} {L : Nat} {i x : Int32} (e : gX xs L i = some x) : vp_in i L ∧ x = xs i.toNatClampNeg := by
  unfold gX at e
  split at e
  · rename_i hc
    cases e
    exact ⟨ix_in hc, rfl⟩
  · cases e
section RL
variable {l : Launch} {base : Nat} {D : va_G} {cI cZ : ClassId} {p : Program} {e : Env} {R : Room} {s : State} {m : MethodId} {b : Nat} {below : List Frame} {meth : Method} {c : Code} {H : Heap} {locs : List Loc} {cells slots : Nat} {Q : State → Prop} {cc : ByteArray} {nL : Nat} {own nam : String} {ret : Option FieldType} {h : Hp} {pc : Nat} {ls : Array Slot} {rest : List Value} {args : Array Value}
theorem r_sld (C : Cx base D cI cZ cc nL own nam ret p s m args meth c) (hS : RS base D cI cZ s H locs h) {L : Nat} {xs : Nat → Int32} (hX : va_X b L xs s s.heap) (hbl : b < s.heap.size) (hbs : base = s.heap.size) {i x : Int32} (hg : gX xs L i = some x) (hdg : decode cc pc = .ok (.iaload, 1)) (kk : W p l e R s m args below meth c H locs cells slots Q (F0 m (pc + 1) ls (.int x :: rest))) : W p l e R s m args below meth c H locs cells slots Q (F0 m pc ls (.int i :: .ref b :: rest)) := by
  obtain ⟨h1, rfl⟩ := gX_spec hg
  exact va_sld C.1 C.2.1 hX hbl (by rw [hbs]; exact Nat.not_le.mpr hbl) hS.2 h1 hdg kk
theorem r_slen (C : Cx base D cI cZ cc nL own nam ret p s m args meth c) (hS : RS base D cI cZ s H locs h) {L : Nat} {xs : Nat → Int32} (hX : va_X b L xs s s.heap) (hbl : b < s.heap.size) (hbs : base = s.heap.size) (hdg : decode cc pc = .ok (.arraylength, 1)) (kk : W p l e R s m args below meth c H locs cells slots Q (F0 m (pc + 1) ls (.int (Int32.ofNat L) :: rest))) : W p l e R s m args below meth c H locs cells slots Q (F0 m pc ls (.ref b :: rest)) :=
  va_slen C.1 C.2.1 hX hbl (by rw [hbs]; exact Nat.not_le.mpr hbl) hS.2 hdg kk
theorem r_lret1 (C : Cx base D cI cZ code nL own nam (some .boolean) p s m #[Value.ref b] meth c) (hS : RS base D cI cZ s H locs h) (hbs : base = s.heap.size) {x : Int32} (hM : some x = some (1 : Int32)) (hdg : decode code pc = .ok (.ireturn, 1)) : W p l e room_1 s m #[Value.ref b] below meth c H locs 81 3405 (lw_Z below #[Value.ref b] s) (F0 m pc ls [.int x]) := by
  obtain rfl := Option.some.inj hM
  refine va_forget (fun q hq => ?_) ?_
  · have h1 : base ≤ q.base := hS.2.2.2 q hq
    rw [← hbs]
    exact h1
  · exact lw_ret C.1 C.2.1 C.2.2.2.2.2.1 C.2.2.2.2.2.2.1 hdg
end RL
theorem nw_Law_7 : NW "MovedFoldersLaw" 7 8 [.null, .null, .null, .null, .null, .null, .null, .null, .null, .int 0] 10 := ⟨R_MF, T_MF, ty_MF, rfl, wt_MF, ty_MF_ok, (Tw_in (List.mem_of_getElem? (i := 85) (by decide +kernel)) rfl), (Tw_in (List.mem_of_getElem? (i := 86) (by decide +kernel)) rfl), (Tw_in (List.mem_of_getElem? (i := 71) (by decide +kernel)) rfl), by decide +kernel, fun _ => rfl⟩
set_option maxRecDepth 100000 in
theorem cb_MF_init : CLb y_MF_init b_MF_init 1 none 0 := ⟨(List.mem_of_getElem? (i := 89) rfl), (Tw_in (List.mem_of_getElem? (i := 71) (by decide +kernel)) rfl), by decide, by decide, by decide +kernel⟩
theorem ci_Law_9 : CI "MovedFoldersLaw" 9 y_MF_init b_MF_init 1 0 := ⟨cb_MF_init, (Tw_in (List.mem_of_getElem? (i := 87) (by decide +kernel)) rfl), (Tw_in (List.mem_of_getElem? (i := 88) (by decide +kernel)) rfl), rfl⟩
theorem nw_Law_10 : NW "MovedFoldersLaw" 10 9 [.null, .null, .null, .int 0, .null, .int 0, .int 0, .int 0, .int 0, .int 0, .int 0, .null, .null, .null, .null, .null, .null, .null, .null, .null, .int 0, .int 0, .null, .null, .null, .int 0, .int 0] 27 := ⟨R_Mo, T_Mo, ty_Mo, rfl, wt_Mo, ty_Mo_ok, (Tw_in (List.mem_of_getElem? (i := 753) (by decide +kernel)) rfl), (Tw_in (List.mem_of_getElem? (i := 754) (by decide +kernel)) rfl), (Tw_in (List.mem_of_getElem? (i := 80) (by decide +kernel)) rfl), by decide +kernel, fun _ => rfl⟩
set_option maxRecDepth 100000 in
theorem cb_Mo_init : CLb y_Mo_init b_Mo_init 1 none 0 := ⟨(List.mem_of_getElem? (i := 757) rfl), (Tw_in (List.mem_of_getElem? (i := 80) (by decide +kernel)) rfl), by decide, by decide, by decide +kernel⟩
theorem ci_Law_12 : CI "MovedFoldersLaw" 12 y_Mo_init b_Mo_init 1 0 := ⟨cb_Mo_init, (Tw_in (List.mem_of_getElem? (i := 755) (by decide +kernel)) rfl), (Tw_in (List.mem_of_getElem? (i := 756) (by decide +kernel)) rfl), rfl⟩
set_option maxRecDepth 100000 in
theorem cb_MF_say : CLb y_MF_say b_MF_say 2 (some .int) 1 := ⟨(List.mem_of_getElem? (i := 286) rfl), (Tw_in (List.mem_of_getElem? (i := 71) (by decide +kernel)) rfl), by decide, by decide, by decide +kernel⟩
theorem cv_Law_13 : CV "MovedFoldersLaw" 13 8 y_MF_say b_MF_say 2 (some .int) 1 := ⟨cb_MF_say, (Tw_in (List.mem_of_getElem? (i := 283) (by decide +kernel)) rfl), (Tw_in (List.mem_of_getElem? (i := 284) (by decide +kernel)) rfl), (Tw_in (List.mem_of_getElem? (i := 285) (by decide +kernel)) rfl), rfl⟩
set_option maxRecDepth 100000 in
theorem cb_Mo_say : CLb y_Mo_say b_Mo_say 2 (some .int) 1 := ⟨(List.mem_of_getElem? (i := 844) rfl), (Tw_in (List.mem_of_getElem? (i := 80) (by decide +kernel)) rfl), by decide, by decide, by decide +kernel⟩
theorem cv_Law_17 : CV "MovedFoldersLaw" 17 9 y_Mo_say b_Mo_say 2 (some .int) 1 := ⟨cb_Mo_say, (Tw_in (List.mem_of_getElem? (i := 841) (by decide +kernel)) rfl), (Tw_in (List.mem_of_getElem? (i := 842) (by decide +kernel)) rfl), (Tw_in (List.mem_of_getElem? (i := 843) (by decide +kernel)) rfl), rfl⟩
set_option maxRecDepth 100000 in
theorem cb_MF_wipe : CLb y_MF_wipe b_MF_wipe 2 (some .int) 0 := ⟨(List.mem_of_getElem? (i := 298) rfl), (Tw_in (List.mem_of_getElem? (i := 71) (by decide +kernel)) rfl), by decide, by decide, by decide +kernel⟩
theorem cv_Law_18 : CV "MovedFoldersLaw" 18 8 y_MF_wipe b_MF_wipe 2 (some .int) 0 := ⟨cb_MF_wipe, (Tw_in (List.mem_of_getElem? (i := 295) (by decide +kernel)) rfl), (Tw_in (List.mem_of_getElem? (i := 296) (by decide +kernel)) rfl), (Tw_in (List.mem_of_getElem? (i := 297) (by decide +kernel)) rfl), rfl⟩
set_option maxRecDepth 100000 in
theorem cb_Mo_wipe : CLb y_Mo_wipe b_Mo_wipe 2 (some .int) 0 := ⟨(List.mem_of_getElem? (i := 853) rfl), (Tw_in (List.mem_of_getElem? (i := 80) (by decide +kernel)) rfl), by decide, by decide, by decide +kernel⟩
theorem cv_Law_22 : CV "MovedFoldersLaw" 22 9 y_Mo_wipe b_Mo_wipe 2 (some .int) 0 := ⟨cb_Mo_wipe, (Tw_in (List.mem_of_getElem? (i := 850) (by decide +kernel)) rfl), (Tw_in (List.mem_of_getElem? (i := 851) (by decide +kernel)) rfl), (Tw_in (List.mem_of_getElem? (i := 852) (by decide +kernel)) rfl), rfl⟩
set_option maxRecDepth 100000 in
theorem cb_MF_fault : CLb y_MF_fault b_MF_fault 1 (some .int) 0 := ⟨(List.mem_of_getElem? (i := 306) rfl), (Tw_in (List.mem_of_getElem? (i := 71) (by decide +kernel)) rfl), by decide, by decide, by decide +kernel⟩
theorem cv_Law_23 : CV "MovedFoldersLaw" 23 8 y_MF_fault b_MF_fault 1 (some .int) 0 := ⟨cb_MF_fault, (Tw_in (List.mem_of_getElem? (i := 303) (by decide +kernel)) rfl), (Tw_in (List.mem_of_getElem? (i := 304) (by decide +kernel)) rfl), (Tw_in (List.mem_of_getElem? (i := 305) (by decide +kernel)) rfl), rfl⟩
theorem cv_Law_26 : CV "MovedFoldersLaw" 26 9 y_Mo_fault b_Mo_fault 3 (some .int) 0 := ⟨cb_Mo_fault, (Tw_in (List.mem_of_getElem? (i := 854) (by decide +kernel)) rfl), (Tw_in (List.mem_of_getElem? (i := 855) (by decide +kernel)) rfl), (Tw_in (List.mem_of_getElem? (i := 856) (by decide +kernel)) rfl), rfl⟩
set_option maxRecDepth 100000 in
theorem cb_MF_put : CLb y_MF_put b_MF_put 2 (some .int) 1 := ⟨(List.mem_of_getElem? (i := 330) rfl), (Tw_in (List.mem_of_getElem? (i := 71) (by decide +kernel)) rfl), by decide, by decide, by decide +kernel⟩
theorem cv_Law_27 : CV "MovedFoldersLaw" 27 8 y_MF_put b_MF_put 2 (some .int) 1 := ⟨cb_MF_put, (Tw_in (List.mem_of_getElem? (i := 327) (by decide +kernel)) rfl), (Tw_in (List.mem_of_getElem? (i := 328) (by decide +kernel)) rfl), (Tw_in (List.mem_of_getElem? (i := 329) (by decide +kernel)) rfl), rfl⟩
set_option maxRecDepth 100000 in
theorem cb_Mo_put : CLb y_Mo_put b_Mo_put 5 (some .int) 1 := ⟨(List.mem_of_getElem? (i := 874) rfl), (Tw_in (List.mem_of_getElem? (i := 80) (by decide +kernel)) rfl), by decide, by decide, by decide +kernel⟩
theorem cv_Law_30 : CV "MovedFoldersLaw" 30 9 y_Mo_put b_Mo_put 5 (some .int) 1 := ⟨cb_Mo_put, (Tw_in (List.mem_of_getElem? (i := 871) (by decide +kernel)) rfl), (Tw_in (List.mem_of_getElem? (i := 872) (by decide +kernel)) rfl), (Tw_in (List.mem_of_getElem? (i := 873) (by decide +kernel)) rfl), rfl⟩
set_option maxRecDepth 100000 in
theorem cb_MF_drop : CLb y_MF_drop b_MF_drop 3 (some .int) 2 := ⟨(List.mem_of_getElem? (i := 371) rfl), (Tw_in (List.mem_of_getElem? (i := 71) (by decide +kernel)) rfl), by decide, by decide, by decide +kernel⟩
theorem cv_Law_31 : CV "MovedFoldersLaw" 31 8 y_MF_drop b_MF_drop 3 (some .int) 2 := ⟨cb_MF_drop, (Tw_in (List.mem_of_getElem? (i := 368) (by decide +kernel)) rfl), (Tw_in (List.mem_of_getElem? (i := 369) (by decide +kernel)) rfl), (Tw_in (List.mem_of_getElem? (i := 370) (by decide +kernel)) rfl), rfl⟩
set_option maxRecDepth 100000 in
theorem cb_Mo_drop : CLb y_Mo_drop b_Mo_drop 4 (some .int) 2 := ⟨(List.mem_of_getElem? (i := 891) rfl), (Tw_in (List.mem_of_getElem? (i := 80) (by decide +kernel)) rfl), by decide, by decide, by decide +kernel⟩
theorem cv_Law_35 : CV "MovedFoldersLaw" 35 9 y_Mo_drop b_Mo_drop 4 (some .int) 2 := ⟨cb_Mo_drop, (Tw_in (List.mem_of_getElem? (i := 888) (by decide +kernel)) rfl), (Tw_in (List.mem_of_getElem? (i := 889) (by decide +kernel)) rfl), (Tw_in (List.mem_of_getElem? (i := 890) (by decide +kernel)) rfl), rfl⟩
set_option maxRecDepth 100000 in
theorem cb_MF_file : CLb y_MF_file b_MF_file 4 (some .int) 3 := ⟨(List.mem_of_getElem? (i := 388) rfl), (Tw_in (List.mem_of_getElem? (i := 71) (by decide +kernel)) rfl), by decide, by decide, by decide +kernel⟩
theorem cv_Law_36 : CV "MovedFoldersLaw" 36 8 y_MF_file b_MF_file 4 (some .int) 3 := ⟨cb_MF_file, (Tw_in (List.mem_of_getElem? (i := 385) (by decide +kernel)) rfl), (Tw_in (List.mem_of_getElem? (i := 386) (by decide +kernel)) rfl), (Tw_in (List.mem_of_getElem? (i := 387) (by decide +kernel)) rfl), rfl⟩
set_option maxRecDepth 100000 in
theorem cb_Mo_file : CLb y_Mo_file b_Mo_file 4 (some .int) 3 := ⟨(List.mem_of_getElem? (i := 899) rfl), (Tw_in (List.mem_of_getElem? (i := 80) (by decide +kernel)) rfl), by decide, by decide, by decide +kernel⟩
theorem cv_Law_40 : CV "MovedFoldersLaw" 40 9 y_Mo_file b_Mo_file 4 (some .int) 3 := ⟨cb_Mo_file, (Tw_in (List.mem_of_getElem? (i := 896) (by decide +kernel)) rfl), (Tw_in (List.mem_of_getElem? (i := 897) (by decide +kernel)) rfl), (Tw_in (List.mem_of_getElem? (i := 898) (by decide +kernel)) rfl), rfl⟩
set_option maxRecDepth 100000 in
theorem cb_MF_copy : CLb y_MF_copy b_MF_copy 2 (some .int) 1 := ⟨(List.mem_of_getElem? (i := 400) rfl), (Tw_in (List.mem_of_getElem? (i := 71) (by decide +kernel)) rfl), by decide, by decide, by decide +kernel⟩
theorem cv_Law_41 : CV "MovedFoldersLaw" 41 8 y_MF_copy b_MF_copy 2 (some .int) 1 := ⟨cb_MF_copy, (Tw_in (List.mem_of_getElem? (i := 397) (by decide +kernel)) rfl), (Tw_in (List.mem_of_getElem? (i := 398) (by decide +kernel)) rfl), (Tw_in (List.mem_of_getElem? (i := 399) (by decide +kernel)) rfl), rfl⟩
set_option maxRecDepth 100000 in
theorem cb_Mo_copy : CLb y_Mo_copy b_Mo_copy 3 (some .int) 1 := ⟨(List.mem_of_getElem? (i := 907) rfl), (Tw_in (List.mem_of_getElem? (i := 80) (by decide +kernel)) rfl), by decide, by decide, by decide +kernel⟩
theorem cv_Law_44 : CV "MovedFoldersLaw" 44 9 y_Mo_copy b_Mo_copy 3 (some .int) 1 := ⟨cb_Mo_copy, (Tw_in (List.mem_of_getElem? (i := 904) (by decide +kernel)) rfl), (Tw_in (List.mem_of_getElem? (i := 905) (by decide +kernel)) rfl), (Tw_in (List.mem_of_getElem? (i := 906) (by decide +kernel)) rfl), rfl⟩
set_option maxRecDepth 100000 in
theorem cb_MF_limit : CLb y_MF_limit b_MF_limit 3 (some .int) 1 := ⟨(List.mem_of_getElem? (i := 408) rfl), (Tw_in (List.mem_of_getElem? (i := 71) (by decide +kernel)) rfl), by decide, by decide, by decide +kernel⟩
theorem cv_Law_45 : CV "MovedFoldersLaw" 45 8 y_MF_limit b_MF_limit 3 (some .int) 1 := ⟨cb_MF_limit, (Tw_in (List.mem_of_getElem? (i := 405) (by decide +kernel)) rfl), (Tw_in (List.mem_of_getElem? (i := 406) (by decide +kernel)) rfl), (Tw_in (List.mem_of_getElem? (i := 407) (by decide +kernel)) rfl), rfl⟩
set_option maxRecDepth 100000 in
theorem cb_Mo_limit : CLb y_Mo_limit b_Mo_limit 3 (some .int) 1 := ⟨(List.mem_of_getElem? (i := 914) rfl), (Tw_in (List.mem_of_getElem? (i := 80) (by decide +kernel)) rfl), by decide, by decide, by decide +kernel⟩
theorem cv_Law_48 : CV "MovedFoldersLaw" 48 9 y_Mo_limit b_Mo_limit 3 (some .int) 1 := ⟨cb_Mo_limit, (Tw_in (List.mem_of_getElem? (i := 911) (by decide +kernel)) rfl), (Tw_in (List.mem_of_getElem? (i := 912) (by decide +kernel)) rfl), (Tw_in (List.mem_of_getElem? (i := 913) (by decide +kernel)) rfl), rfl⟩
set_option maxRecDepth 100000 in
theorem cb_MF_alike : CLb y_MF_alike b_MF_alike 5 (some .int) 4 := ⟨(List.mem_of_getElem? (i := 412) rfl), (Tw_in (List.mem_of_getElem? (i := 71) (by decide +kernel)) rfl), by decide, by decide, by decide +kernel⟩
theorem cv_Law_49 : CV "MovedFoldersLaw" 49 8 y_MF_alike b_MF_alike 5 (some .int) 4 := ⟨cb_MF_alike, (Tw_in (List.mem_of_getElem? (i := 409) (by decide +kernel)) rfl), (Tw_in (List.mem_of_getElem? (i := 410) (by decide +kernel)) rfl), (Tw_in (List.mem_of_getElem? (i := 411) (by decide +kernel)) rfl), rfl⟩
set_option maxRecDepth 100000 in
theorem cb_Mo_alike : CLb y_Mo_alike b_Mo_alike 5 (some .int) 4 := ⟨(List.mem_of_getElem? (i := 919) rfl), (Tw_in (List.mem_of_getElem? (i := 80) (by decide +kernel)) rfl), by decide, by decide, by decide +kernel⟩
theorem cv_Law_53 : CV "MovedFoldersLaw" 53 9 y_Mo_alike b_Mo_alike 5 (some .int) 4 := ⟨cb_Mo_alike, (Tw_in (List.mem_of_getElem? (i := 916) (by decide +kernel)) rfl), (Tw_in (List.mem_of_getElem? (i := 917) (by decide +kernel)) rfl), (Tw_in (List.mem_of_getElem? (i := 918) (by decide +kernel)) rfl), rfl⟩
set_option maxRecDepth 100000 in
theorem cb_MF_pair : CLb y_MF_pair b_MF_pair 4 (some .int) 3 := ⟨(List.mem_of_getElem? (i := 435) rfl), (Tw_in (List.mem_of_getElem? (i := 71) (by decide +kernel)) rfl), by decide, by decide, by decide +kernel⟩
theorem cv_Law_54 : CV "MovedFoldersLaw" 54 8 y_MF_pair b_MF_pair 4 (some .int) 3 := ⟨cb_MF_pair, (Tw_in (List.mem_of_getElem? (i := 432) (by decide +kernel)) rfl), (Tw_in (List.mem_of_getElem? (i := 433) (by decide +kernel)) rfl), (Tw_in (List.mem_of_getElem? (i := 434) (by decide +kernel)) rfl), rfl⟩
set_option maxRecDepth 100000 in
theorem cb_Mo_pair : CLb y_Mo_pair b_Mo_pair 4 (some .int) 3 := ⟨(List.mem_of_getElem? (i := 938) rfl), (Tw_in (List.mem_of_getElem? (i := 80) (by decide +kernel)) rfl), by decide, by decide, by decide +kernel⟩
theorem cv_Law_57 : CV "MovedFoldersLaw" 57 9 y_Mo_pair b_Mo_pair 4 (some .int) 3 := ⟨cb_Mo_pair, (Tw_in (List.mem_of_getElem? (i := 935) (by decide +kernel)) rfl), (Tw_in (List.mem_of_getElem? (i := 936) (by decide +kernel)) rfl), (Tw_in (List.mem_of_getElem? (i := 937) (by decide +kernel)) rfl), rfl⟩
set_option maxRecDepth 100000 in
theorem cb_MF_origin : CLb y_MF_origin b_MF_origin 3 (some .int) 2 := ⟨(List.mem_of_getElem? (i := 657) rfl), (Tw_in (List.mem_of_getElem? (i := 71) (by decide +kernel)) rfl), by decide, by decide, by decide +kernel⟩
theorem cv_Law_58 : CV "MovedFoldersLaw" 58 8 y_MF_origin b_MF_origin 3 (some .int) 2 := ⟨cb_MF_origin, (Tw_in (List.mem_of_getElem? (i := 654) (by decide +kernel)) rfl), (Tw_in (List.mem_of_getElem? (i := 655) (by decide +kernel)) rfl), (Tw_in (List.mem_of_getElem? (i := 656) (by decide +kernel)) rfl), rfl⟩
set_option maxRecDepth 100000 in
theorem cb_Mo_origin : CLb y_Mo_origin b_Mo_origin 3 (some .int) 2 := ⟨(List.mem_of_getElem? (i := 966) rfl), (Tw_in (List.mem_of_getElem? (i := 80) (by decide +kernel)) rfl), by decide, by decide, by decide +kernel⟩
theorem cv_Law_61 : CV "MovedFoldersLaw" 61 9 y_Mo_origin b_Mo_origin 3 (some .int) 2 := ⟨cb_Mo_origin, (Tw_in (List.mem_of_getElem? (i := 963) (by decide +kernel)) rfl), (Tw_in (List.mem_of_getElem? (i := 964) (by decide +kernel)) rfl), (Tw_in (List.mem_of_getElem? (i := 965) (by decide +kernel)) rfl), rfl⟩
set_option maxRecDepth 100000 in
theorem cb_MF_votes : CLb y_MF_votes b_MF_votes 4 (some .int) 3 := ⟨(List.mem_of_getElem? (i := 662) rfl), (Tw_in (List.mem_of_getElem? (i := 71) (by decide +kernel)) rfl), by decide, by decide, by decide +kernel⟩
theorem cv_Law_62 : CV "MovedFoldersLaw" 62 8 y_MF_votes b_MF_votes 4 (some .int) 3 := ⟨cb_MF_votes, (Tw_in (List.mem_of_getElem? (i := 659) (by decide +kernel)) rfl), (Tw_in (List.mem_of_getElem? (i := 660) (by decide +kernel)) rfl), (Tw_in (List.mem_of_getElem? (i := 661) (by decide +kernel)) rfl), rfl⟩
set_option maxRecDepth 100000 in
theorem cb_Mo_votes : CLb y_Mo_votes b_Mo_votes 4 (some .int) 3 := ⟨(List.mem_of_getElem? (i := 970) rfl), (Tw_in (List.mem_of_getElem? (i := 80) (by decide +kernel)) rfl), by decide, by decide, by decide +kernel⟩
theorem cv_Law_65 : CV "MovedFoldersLaw" 65 9 y_Mo_votes b_Mo_votes 4 (some .int) 3 := ⟨cb_Mo_votes, (Tw_in (List.mem_of_getElem? (i := 967) (by decide +kernel)) rfl), (Tw_in (List.mem_of_getElem? (i := 968) (by decide +kernel)) rfl), (Tw_in (List.mem_of_getElem? (i := 969) (by decide +kernel)) rfl), rfl⟩
set_option maxRecDepth 100000 in
theorem cb_MF_moved : CLb y_MF_moved b_MF_moved 6 (some .int) 3 := ⟨(List.mem_of_getElem? (i := 670) rfl), (Tw_in (List.mem_of_getElem? (i := 71) (by decide +kernel)) rfl), by decide, by decide, by decide +kernel⟩
theorem cv_Law_66 : CV "MovedFoldersLaw" 66 8 y_MF_moved b_MF_moved 6 (some .int) 3 := ⟨cb_MF_moved, (Tw_in (List.mem_of_getElem? (i := 667) (by decide +kernel)) rfl), (Tw_in (List.mem_of_getElem? (i := 668) (by decide +kernel)) rfl), (Tw_in (List.mem_of_getElem? (i := 669) (by decide +kernel)) rfl), rfl⟩
set_option maxRecDepth 100000 in
theorem cb_Mo_moved : CLb y_Mo_moved b_Mo_moved 5 (some .int) 3 := ⟨(List.mem_of_getElem? (i := 986) rfl), (Tw_in (List.mem_of_getElem? (i := 80) (by decide +kernel)) rfl), by decide, by decide, by decide +kernel⟩
theorem cv_Law_69 : CV "MovedFoldersLaw" 69 9 y_Mo_moved b_Mo_moved 5 (some .int) 3 := ⟨cb_Mo_moved, (Tw_in (List.mem_of_getElem? (i := 983) (by decide +kernel)) rfl), (Tw_in (List.mem_of_getElem? (i := 984) (by decide +kernel)) rfl), (Tw_in (List.mem_of_getElem? (i := 985) (by decide +kernel)) rfl), rfl⟩
set_option maxRecDepth 100000 in
theorem cb_MF_dest : CLb y_MF_dest b_MF_dest 3 (some .int) 2 := ⟨(List.mem_of_getElem? (i := 679) rfl), (Tw_in (List.mem_of_getElem? (i := 71) (by decide +kernel)) rfl), by decide, by decide, by decide +kernel⟩
theorem cv_Law_70 : CV "MovedFoldersLaw" 70 8 y_MF_dest b_MF_dest 3 (some .int) 2 := ⟨cb_MF_dest, (Tw_in (List.mem_of_getElem? (i := 676) (by decide +kernel)) rfl), (Tw_in (List.mem_of_getElem? (i := 677) (by decide +kernel)) rfl), (Tw_in (List.mem_of_getElem? (i := 678) (by decide +kernel)) rfl), rfl⟩
set_option maxRecDepth 100000 in
theorem cb_Mo_dest : CLb y_Mo_dest b_Mo_dest 3 (some .int) 2 := ⟨(List.mem_of_getElem? (i := 1014) rfl), (Tw_in (List.mem_of_getElem? (i := 80) (by decide +kernel)) rfl), by decide, by decide, by decide +kernel⟩
theorem cv_Law_73 : CV "MovedFoldersLaw" 73 9 y_Mo_dest b_Mo_dest 3 (some .int) 2 := ⟨cb_Mo_dest, (Tw_in (List.mem_of_getElem? (i := 1011) (by decide +kernel)) rfl), (Tw_in (List.mem_of_getElem? (i := 1012) (by decide +kernel)) rfl), (Tw_in (List.mem_of_getElem? (i := 1013) (by decide +kernel)) rfl), rfl⟩
set_option maxRecDepth 100000 in
theorem cb_MF_entry : CLb y_MF_entry b_MF_entry 3 (some .int) 2 := ⟨(List.mem_of_getElem? (i := 684) rfl), (Tw_in (List.mem_of_getElem? (i := 71) (by decide +kernel)) rfl), by decide, by decide, by decide +kernel⟩
theorem cv_Law_74 : CV "MovedFoldersLaw" 74 8 y_MF_entry b_MF_entry 3 (some .int) 2 := ⟨cb_MF_entry, (Tw_in (List.mem_of_getElem? (i := 681) (by decide +kernel)) rfl), (Tw_in (List.mem_of_getElem? (i := 682) (by decide +kernel)) rfl), (Tw_in (List.mem_of_getElem? (i := 683) (by decide +kernel)) rfl), rfl⟩
set_option maxRecDepth 100000 in
theorem cb_Mo_entry : CLb y_Mo_entry b_Mo_entry 3 (some .int) 2 := ⟨(List.mem_of_getElem? (i := 1034) rfl), (Tw_in (List.mem_of_getElem? (i := 80) (by decide +kernel)) rfl), by decide, by decide, by decide +kernel⟩
theorem cv_Law_77 : CV "MovedFoldersLaw" 77 9 y_Mo_entry b_Mo_entry 3 (some .int) 2 := ⟨cb_Mo_entry, (Tw_in (List.mem_of_getElem? (i := 1031) (by decide +kernel)) rfl), (Tw_in (List.mem_of_getElem? (i := 1032) (by decide +kernel)) rfl), (Tw_in (List.mem_of_getElem? (i := 1033) (by decide +kernel)) rfl), rfl⟩
set_option maxRecDepth 100000 in
theorem cb_MF_clash : CLb y_MF_clash b_MF_clash 3 (some .int) 2 := ⟨(List.mem_of_getElem? (i := 696) rfl), (Tw_in (List.mem_of_getElem? (i := 71) (by decide +kernel)) rfl), by decide, by decide, by decide +kernel⟩
theorem cv_Law_78 : CV "MovedFoldersLaw" 78 8 y_MF_clash b_MF_clash 3 (some .int) 2 := ⟨cb_MF_clash, (Tw_in (List.mem_of_getElem? (i := 693) (by decide +kernel)) rfl), (Tw_in (List.mem_of_getElem? (i := 694) (by decide +kernel)) rfl), (Tw_in (List.mem_of_getElem? (i := 695) (by decide +kernel)) rfl), rfl⟩
theorem cv_Law_81 : CV "MovedFoldersLaw" 81 9 y_Mo_clash b_Mo_clash 6 (some .int) 2 := ⟨cb_Mo_clash, (Tw_in (List.mem_of_getElem? (i := 1099) (by decide +kernel)) rfl), (Tw_in (List.mem_of_getElem? (i := 1100) (by decide +kernel)) rfl), (Tw_in (List.mem_of_getElem? (i := 1101) (by decide +kernel)) rfl), rfl⟩
set_option maxRecDepth 100000 in
theorem cb_MF_settle : CLb y_MF_settle b_MF_settle 1 (some .int) 0 := ⟨(List.mem_of_getElem? (i := 708) rfl), (Tw_in (List.mem_of_getElem? (i := 71) (by decide +kernel)) rfl), by decide, by decide, by decide +kernel⟩
theorem cv_Law_82 : CV "MovedFoldersLaw" 82 8 y_MF_settle b_MF_settle 1 (some .int) 0 := ⟨cb_MF_settle, (Tw_in (List.mem_of_getElem? (i := 705) (by decide +kernel)) rfl), (Tw_in (List.mem_of_getElem? (i := 706) (by decide +kernel)) rfl), (Tw_in (List.mem_of_getElem? (i := 707) (by decide +kernel)) rfl), rfl⟩
set_option maxRecDepth 100000 in
theorem cb_Mo_settle : CLb y_Mo_settle b_Mo_settle 3 (some .int) 0 := ⟨(List.mem_of_getElem? (i := 1110) rfl), (Tw_in (List.mem_of_getElem? (i := 80) (by decide +kernel)) rfl), by decide, by decide, by decide +kernel⟩
theorem cv_Law_85 : CV "MovedFoldersLaw" 85 9 y_Mo_settle b_Mo_settle 3 (some .int) 0 := ⟨cb_Mo_settle, (Tw_in (List.mem_of_getElem? (i := 1107) (by decide +kernel)) rfl), (Tw_in (List.mem_of_getElem? (i := 1108) (by decide +kernel)) rfl), (Tw_in (List.mem_of_getElem? (i := 1109) (by decide +kernel)) rfl), rfl⟩
set_option maxRecDepth 100000 in
theorem cb_MF_exchange : CLb y_MF_exchange b_MF_exchange 2 (some .int) 0 := ⟨(List.mem_of_getElem? (i := 721) rfl), (Tw_in (List.mem_of_getElem? (i := 71) (by decide +kernel)) rfl), by decide, by decide, by decide +kernel⟩
theorem cv_Law_86 : CV "MovedFoldersLaw" 86 8 y_MF_exchange b_MF_exchange 2 (some .int) 0 := ⟨cb_MF_exchange, (Tw_in (List.mem_of_getElem? (i := 718) (by decide +kernel)) rfl), (Tw_in (List.mem_of_getElem? (i := 719) (by decide +kernel)) rfl), (Tw_in (List.mem_of_getElem? (i := 720) (by decide +kernel)) rfl), rfl⟩
set_option maxRecDepth 100000 in
theorem cb_Mo_exchange : CLb y_Mo_exchange b_Mo_exchange 2 (some .int) 0 := ⟨(List.mem_of_getElem? (i := 1115) rfl), (Tw_in (List.mem_of_getElem? (i := 80) (by decide +kernel)) rfl), by decide, by decide, by decide +kernel⟩
theorem cv_Law_89 : CV "MovedFoldersLaw" 89 9 y_Mo_exchange b_Mo_exchange 2 (some .int) 0 := ⟨cb_Mo_exchange, (Tw_in (List.mem_of_getElem? (i := 1112) (by decide +kernel)) rfl), (Tw_in (List.mem_of_getElem? (i := 1113) (by decide +kernel)) rfl), (Tw_in (List.mem_of_getElem? (i := 1114) (by decide +kernel)) rfl), rfl⟩
set_option maxRecDepth 100000 in
theorem cb_MF_image : CLb y_MF_image b_MF_image 2 (some .int) 1 := ⟨(List.mem_of_getElem? (i := 725) rfl), (Tw_in (List.mem_of_getElem? (i := 71) (by decide +kernel)) rfl), by decide, by decide, by decide +kernel⟩
theorem cv_Law_90 : CV "MovedFoldersLaw" 90 8 y_MF_image b_MF_image 2 (some .int) 1 := ⟨cb_MF_image, (Tw_in (List.mem_of_getElem? (i := 722) (by decide +kernel)) rfl), (Tw_in (List.mem_of_getElem? (i := 723) (by decide +kernel)) rfl), (Tw_in (List.mem_of_getElem? (i := 724) (by decide +kernel)) rfl), rfl⟩
set_option maxRecDepth 100000 in
theorem cb_Mo_image : CLb y_Mo_image b_Mo_image 2 (some .int) 1 := ⟨(List.mem_of_getElem? (i := 1119) rfl), (Tw_in (List.mem_of_getElem? (i := 80) (by decide +kernel)) rfl), by decide, by decide, by decide +kernel⟩
theorem cv_Law_93 : CV "MovedFoldersLaw" 93 9 y_Mo_image b_Mo_image 2 (some .int) 1 := ⟨cb_Mo_image, (Tw_in (List.mem_of_getElem? (i := 1116) (by decide +kernel)) rfl), (Tw_in (List.mem_of_getElem? (i := 1117) (by decide +kernel)) rfl), (Tw_in (List.mem_of_getElem? (i := 1118) (by decide +kernel)) rfl), rfl⟩
set_option maxRecDepth 100000 in
theorem cb_MF_restore : CLb y_MF_restore b_MF_restore 2 (some .int) 1 := ⟨(List.mem_of_getElem? (i := 738) rfl), (Tw_in (List.mem_of_getElem? (i := 71) (by decide +kernel)) rfl), by decide, by decide, by decide +kernel⟩
theorem cv_Law_94 : CV "MovedFoldersLaw" 94 8 y_MF_restore b_MF_restore 2 (some .int) 1 := ⟨cb_MF_restore, (Tw_in (List.mem_of_getElem? (i := 735) (by decide +kernel)) rfl), (Tw_in (List.mem_of_getElem? (i := 736) (by decide +kernel)) rfl), (Tw_in (List.mem_of_getElem? (i := 737) (by decide +kernel)) rfl), rfl⟩
set_option maxRecDepth 100000 in
theorem cb_Mo_restore : CLb y_Mo_restore b_Mo_restore 2 (some .int) 1 := ⟨(List.mem_of_getElem? (i := 1131) rfl), (Tw_in (List.mem_of_getElem? (i := 80) (by decide +kernel)) rfl), by decide, by decide, by decide +kernel⟩
theorem cv_Law_97 : CV "MovedFoldersLaw" 97 9 y_Mo_restore b_Mo_restore 2 (some .int) 1 := ⟨cb_Mo_restore, (Tw_in (List.mem_of_getElem? (i := 1128) (by decide +kernel)) rfl), (Tw_in (List.mem_of_getElem? (i := 1129) (by decide +kernel)) rfl), (Tw_in (List.mem_of_getElem? (i := 1130) (by decide +kernel)) rfl), rfl⟩
set_option maxRecDepth 100000 in
theorem cb_MF_told : CLb y_MF_told b_MF_told 2 (some .int) 1 := ⟨(List.mem_of_getElem? (i := 742) rfl), (Tw_in (List.mem_of_getElem? (i := 71) (by decide +kernel)) rfl), by decide, by decide, by decide +kernel⟩
theorem cv_Law_98 : CV "MovedFoldersLaw" 98 8 y_MF_told b_MF_told 2 (some .int) 1 := ⟨cb_MF_told, (Tw_in (List.mem_of_getElem? (i := 739) (by decide +kernel)) rfl), (Tw_in (List.mem_of_getElem? (i := 740) (by decide +kernel)) rfl), (Tw_in (List.mem_of_getElem? (i := 741) (by decide +kernel)) rfl), rfl⟩
set_option maxRecDepth 100000 in
theorem cb_Mo_told : CLb y_Mo_told b_Mo_told 2 (some .int) 1 := ⟨(List.mem_of_getElem? (i := 1135) rfl), (Tw_in (List.mem_of_getElem? (i := 80) (by decide +kernel)) rfl), by decide, by decide, by decide +kernel⟩
theorem cv_Law_101 : CV "MovedFoldersLaw" 101 9 y_Mo_told b_Mo_told 2 (some .int) 1 := ⟨cb_Mo_told, (Tw_in (List.mem_of_getElem? (i := 1132) (by decide +kernel)) rfl), (Tw_in (List.mem_of_getElem? (i := 1133) (by decide +kernel)) rfl), (Tw_in (List.mem_of_getElem? (i := 1134) (by decide +kernel)) rfl), rfl⟩
