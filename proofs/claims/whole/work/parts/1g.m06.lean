section MM6
variable {l : Launch} {base : Nat} {D : va_G} {cI cZ : ClassId} {p : Program} {e : Env} {s : State} {m : MethodId} {args : Array Value} {below : List Frame} {meth : Method} {c : Code}
theorem d_Mo_in_0 : decode b_Mo_in 0 = .ok (.lload_n 0, 1) := by decide +kernel
theorem d_Mo_in_1 : decode b_Mo_in 1 = .ok (.lload_n 2, 1) := by decide +kernel
theorem d_Mo_in_2 : decode b_Mo_in 2 = .ok (.lcmp, 1) := by decide +kernel
theorem d_Mo_in_3 : decode b_Mo_in 3 = .ok (.ifCond .lt 14, 3) := by decide +kernel
theorem d_Mo_in_6 : decode b_Mo_in 6 = .ok (.lload_n 0, 1) := by decide +kernel
theorem d_Mo_in_7 : decode b_Mo_in 7 = .ok (.lload 4, 2) := by decide +kernel
theorem d_Mo_in_9 : decode b_Mo_in 9 = .ok (.lcmp, 1) := by decide +kernel
theorem d_Mo_in_10 : decode b_Mo_in 10 = .ok (.ifCond .gt 7, 3) := by decide +kernel
theorem d_Mo_in_13 : decode b_Mo_in 13 = .ok (.iconst 1, 1) := by decide +kernel
theorem d_Mo_in_14 : decode b_Mo_in 14 = .ok (.goto 4, 3) := by decide +kernel
theorem d_Mo_in_17 : decode b_Mo_in 17 = .ok (.iconst 0, 1) := by decide +kernel
theorem d_Mo_in_18 : decode b_Mo_in 18 = .ok (.ireturn, 1) := by decide +kernel
def f_Mo_in (l0 : Int64) (l2 : Int64) (l4 : Int64) : Option Int32 :=
  rz (if (lg_cmp l0 l2) < (0 : Int32) then ((0 : Int32)) else (if (0 : Int32) < (lg_cmp l0 l4) then ((0 : Int32)) else ((1 : Int32))))
set_option maxHeartbeats 4000000 in
set_option maxRecDepth 100000 in
theorem t_Mo_in {h : Hp} {l0 : Int64} {l2 : Int64} {l4 : Int64} {r : Int32} (C : Cx base D cI cZ b_Mo_in 6 "MovedFoldersModel" "in" (some .boolean) p s m args meth c) (hM : f_Mo_in l0 l2 l4 = some r) (H : Heap) (locs : List Loc) (ls : Array Slot) (hS : RS base D cI cZ s H locs h) (hl : lv_has ls 6 [(0, .long l0), (2, .long l2), (4, .long l4)]) : Wg l base D cI cZ 0 0 0 0 h (some (.int r)) p e s m args below meth c H locs 0 0 (F0 m 0 ls []) := by
  have hx := C.1
  have hb := C.2.1
  unfold f_Mo_in at hM
  refine lv_lload_n hx hb d_Mo_in_0 rfl (lv_at hl 0 rfl) ?_
  refine lv_lload_n hx hb d_Mo_in_1 rfl (lv_at hl 1 rfl) ?_
  refine W.lcmp hx hb d_Mo_in_2 ?_
  have kJ18_1 : ∀ (H : Heap) (locs : List Loc) (ls : Array Slot), RS base D cI cZ s H locs h → lv_has ls 6 [] → Wg l base D cI cZ 0 0 0 0 h (some (.int r)) p e s m args below meth c H locs 0 0 (F0 m 18 ls [.int (if (lg_cmp l0 l2) < (0 : Int32) then ((0 : Int32)) else (if (0 : Int32) < (lg_cmp l0 l4) then ((0 : Int32)) else ((1 : Int32))))]) := by
    intro H locs ls hS hl
    exact r_zret C hS hM d_Mo_in_18
  refine lv_if_lt (tgt := 17) hx hb d_Mo_in_3 (by decide) (fun c3_2 => ?_) (fun c3_2 => ?_)
  · rw [if_pos c3_2] at kJ18_1
    refine lv_iconst (v := (0 : Int32)) hx hb d_Mo_in_17 (by decide) ?_
    exact kJ18_1 _ _ _ hS (lv_sub hl [] rfl)
  · rw [if_neg c3_2] at kJ18_1
    refine lv_lload_n hx hb d_Mo_in_6 rfl (lv_at hl 0 rfl) ?_
    refine lv_lload hx hb d_Mo_in_7 (lv_at hl 2 rfl) ?_
    refine W.lcmp hx hb d_Mo_in_9 ?_
    refine lv_if_gt (tgt := 17) hx hb d_Mo_in_10 (by decide) (fun c10_3 => ?_) (fun c10_3 => ?_)
    · rw [if_pos c10_3] at kJ18_1
      refine lv_iconst (v := (0 : Int32)) hx hb d_Mo_in_17 (by decide) ?_
      exact kJ18_1 _ _ _ hS (lv_sub hl [] rfl)
    · rw [if_neg c10_3] at kJ18_1
      refine lv_iconst (v := (1 : Int32)) hx hb d_Mo_in_13 (by decide) ?_
      refine lv_goto (tgt := 18) hx hb d_Mo_in_14 (by decide) ?_
      exact kJ18_1 _ _ _ hS (lv_sub hl [] rfl)
theorem c_Mo_in (l : Launch) (base : Nat) (D : va_G) (cI cZ : ClassId) (h : Hp) (l0 : Int64) (l2 : Int64) (l4 : Int64) {r : Int32} (hM : f_Mo_in l0 l2 l4 = some r) : Ct l base D cI cZ y_Mo_in b_Mo_in 6 (some .boolean) 0 0 0 0 h [.long l0, .long l2, .long l4] h (some (.int r)) :=
  ct_of (by decide) (Nat.le_of_ble_eq_true rfl) (fun p e s m below meth c ls C hS hl => t_Mo_in C hM _ _ _ hS hl)
theorem d_Mo_isTree_0 : decode b_Mo_isTree 0 = .ok (.iload_n 0, 1) := by decide +kernel
theorem d_Mo_isTree_1 : decode b_Mo_isTree 1 = .ok (.i2l, 1) := by decide +kernel
theorem d_Mo_isTree_2 : decode b_Mo_isTree 2 = .ok (.lconst 0, 1) := by decide +kernel
theorem d_Mo_isTree_3 : decode b_Mo_isTree 3 = .ok (.ldc2_w 63, 3) := by decide +kernel
theorem d_Mo_isTree_6 : decode b_Mo_isTree 6 = .ok (.invokestatic 65, 3) := by decide +kernel
theorem d_Mo_isTree_9 : decode b_Mo_isTree 9 = .ok (.ireturn, 1) := by decide +kernel
def f_Mo_isTree (l0 : Int32) : Option Int32 :=
  (f_Mo_in (l0.toInt64) (0 : Int64) (2 : Int64)).bind fun t1 =>
  rz t1
set_option maxHeartbeats 4000000 in
set_option maxRecDepth 100000 in
theorem t_Mo_isTree {h : Hp} {l0 : Int32} {r : Int32} (C : Cx base D cI cZ b_Mo_isTree 1 "MovedFoldersModel" "isTree" (some .boolean) p s m args meth c) (hM : f_Mo_isTree l0 = some r) (H : Heap) (locs : List Loc) (ls : Array Slot) (hS : RS base D cI cZ s H locs h) (hl : lv_has ls 1 [(0, .int l0)]) : Wg l base D cI cZ 1 25 0 0 h (some (.int r)) p e s m args below meth c H locs 0 0 (F0 m 0 ls []) := by
  have hx := C.1
  have hb := C.2.1
  unfold f_Mo_isTree at hM
  refine lv_iload_n hx hb d_Mo_isTree_0 rfl (lv_at hl 0 rfl) ?_
  refine lv_i2l (v := (l0.toInt64)) hx hb d_Mo_isTree_1 rfl ?_
  refine lv_lconst (v := (0 : Int64)) hx hb d_Mo_isTree_2 (by decide) ?_
  refine lv_ldc2 (v := (2 : Int64)) hx hb C.2.2.2.1 (C.2.2.2.2.1 _ kl_Mo_63) d_Mo_isTree_3 ?_
  obtain ⟨t1, et1, hM⟩ := bS hM
  refine r_callSi (x := t1) C hS cs_Mo_65 (c_Mo_in l base D cI cZ h (l0.toInt64) (0 : Int64) (2 : Int64) et1) (rest := []) rfl hl.1 rfl (Nat.le_of_ble_eq_true rfl) ⟨(Nat.le_of_ble_eq_true rfl), (Nat.le_of_ble_eq_true rfl)⟩ ⟨(Nat.le_of_ble_eq_true rfl), (Nat.le_of_ble_eq_true rfl)⟩ d_Mo_isTree_6 (fun H locs hS => ?_)
  exact r_zret C hS hM d_Mo_isTree_9
theorem c_Mo_isTree (l : Launch) (base : Nat) (D : va_G) (cI cZ : ClassId) (h : Hp) (l0 : Int32) {r : Int32} (hM : f_Mo_isTree l0 = some r) : Ct l base D cI cZ y_Mo_isTree b_Mo_isTree 1 (some .boolean) 1 25 0 0 h [.int l0] h (some (.int r)) :=
  ct_of (by decide) (Nat.le_of_ble_eq_true rfl) (fun p e s m below meth c ls C hS hl => t_Mo_isTree C hM _ _ _ hS hl)
theorem d_Mo_isSide_0 : decode b_Mo_isSide 0 = .ok (.iload_n 0, 1) := by decide +kernel
theorem d_Mo_isSide_1 : decode b_Mo_isSide 1 = .ok (.i2l, 1) := by decide +kernel
theorem d_Mo_isSide_2 : decode b_Mo_isSide 2 = .ok (.lconst 1, 1) := by decide +kernel
theorem d_Mo_isSide_3 : decode b_Mo_isSide 3 = .ok (.ldc2_w 63, 3) := by decide +kernel
theorem d_Mo_isSide_6 : decode b_Mo_isSide 6 = .ok (.invokestatic 65, 3) := by decide +kernel
theorem d_Mo_isSide_9 : decode b_Mo_isSide 9 = .ok (.ireturn, 1) := by decide +kernel
def f_Mo_isSide (l0 : Int32) : Option Int32 :=
  (f_Mo_in (l0.toInt64) (1 : Int64) (2 : Int64)).bind fun t1 =>
  rz t1
set_option maxHeartbeats 4000000 in
set_option maxRecDepth 100000 in
theorem t_Mo_isSide {h : Hp} {l0 : Int32} {r : Int32} (C : Cx base D cI cZ b_Mo_isSide 1 "MovedFoldersModel" "isSide" (some .boolean) p s m args meth c) (hM : f_Mo_isSide l0 = some r) (H : Heap) (locs : List Loc) (ls : Array Slot) (hS : RS base D cI cZ s H locs h) (hl : lv_has ls 1 [(0, .int l0)]) : Wg l base D cI cZ 1 25 0 0 h (some (.int r)) p e s m args below meth c H locs 0 0 (F0 m 0 ls []) := by
  have hx := C.1
  have hb := C.2.1
  unfold f_Mo_isSide at hM
  refine lv_iload_n hx hb d_Mo_isSide_0 rfl (lv_at hl 0 rfl) ?_
  refine lv_i2l (v := (l0.toInt64)) hx hb d_Mo_isSide_1 rfl ?_
  refine lv_lconst (v := (1 : Int64)) hx hb d_Mo_isSide_2 (by decide) ?_
  refine lv_ldc2 (v := (2 : Int64)) hx hb C.2.2.2.1 (C.2.2.2.2.1 _ kl_Mo_63) d_Mo_isSide_3 ?_
  obtain ⟨t1, et1, hM⟩ := bS hM
  refine r_callSi (x := t1) C hS cs_Mo_65 (c_Mo_in l base D cI cZ h (l0.toInt64) (1 : Int64) (2 : Int64) et1) (rest := []) rfl hl.1 rfl (Nat.le_of_ble_eq_true rfl) ⟨(Nat.le_of_ble_eq_true rfl), (Nat.le_of_ble_eq_true rfl)⟩ ⟨(Nat.le_of_ble_eq_true rfl), (Nat.le_of_ble_eq_true rfl)⟩ d_Mo_isSide_6 (fun H locs hS => ?_)
  exact r_zret C hS hM d_Mo_isSide_9
theorem c_Mo_isSide (l : Launch) (base : Nat) (D : va_G) (cI cZ : ClassId) (h : Hp) (l0 : Int32) {r : Int32} (hM : f_Mo_isSide l0 = some r) : Ct l base D cI cZ y_Mo_isSide b_Mo_isSide 1 (some .boolean) 1 25 0 0 h [.int l0] h (some (.int r)) :=
  ct_of (by decide) (Nat.le_of_ble_eq_true rfl) (fun p e s m below meth c ls C hS hl => t_Mo_isSide C hM _ _ _ hS hl)
theorem d_Mo_less_0 : decode b_Mo_less 0 = .ok (.iload_n 0, 1) := by decide +kernel
theorem d_Mo_less_1 : decode b_Mo_less 1 = .ok (.iload_n 1, 1) := by decide +kernel
theorem d_Mo_less_2 : decode b_Mo_less 2 = .ok (.if_icmp .ge 7, 3) := by decide +kernel
theorem d_Mo_less_5 : decode b_Mo_less 5 = .ok (.iload_n 0, 1) := by decide +kernel
theorem d_Mo_less_6 : decode b_Mo_less 6 = .ok (.goto 4, 3) := by decide +kernel
theorem d_Mo_less_9 : decode b_Mo_less 9 = .ok (.iload_n 1, 1) := by decide +kernel
theorem d_Mo_less_10 : decode b_Mo_less 10 = .ok (.ireturn, 1) := by decide +kernel
def f_Mo_less (l0 : Int32) (l1 : Int32) : Option Int32 :=
  some (if l1 ≤ l0 then (l1) else (l0))
set_option maxHeartbeats 4000000 in
set_option maxRecDepth 100000 in
theorem t_Mo_less {h : Hp} {l0 : Int32} {l1 : Int32} {r : Int32} (C : Cx base D cI cZ b_Mo_less 2 "MovedFoldersModel" "less" (some .int) p s m args meth c) (hM : f_Mo_less l0 l1 = some r) (H : Heap) (locs : List Loc) (ls : Array Slot) (hS : RS base D cI cZ s H locs h) (hl : lv_has ls 2 [(0, .int l0), (1, .int l1)]) : Wg l base D cI cZ 0 0 0 0 h (some (.int r)) p e s m args below meth c H locs 0 0 (F0 m 0 ls []) := by
  have hx := C.1
  have hb := C.2.1
  unfold f_Mo_less at hM
  refine lv_iload_n hx hb d_Mo_less_0 rfl (lv_at hl 0 rfl) ?_
  refine lv_iload_n hx hb d_Mo_less_1 rfl (lv_at hl 1 rfl) ?_
  have kJ10_1 : ∀ (H : Heap) (locs : List Loc) (ls : Array Slot), RS base D cI cZ s H locs h → lv_has ls 2 [] → Wg l base D cI cZ 0 0 0 0 h (some (.int r)) p e s m args below meth c H locs 0 0 (F0 m 10 ls [.int (if l1 ≤ l0 then (l1) else (l0))]) := by
    intro H locs ls hS hl
    obtain rfl := Option.some.inj hM
    exact r_iret C hS d_Mo_less_10
  refine lv_icmp_ge (tgt := 9) hx hb d_Mo_less_2 (by decide) (fun c2_2 => ?_) (fun c2_2 => ?_)
  · rw [if_pos c2_2] at kJ10_1
    refine lv_iload_n hx hb d_Mo_less_9 rfl (lv_at hl 1 rfl) ?_
    exact kJ10_1 _ _ _ hS (lv_sub hl [] rfl)
  · rw [if_neg c2_2] at kJ10_1
    refine lv_iload_n hx hb d_Mo_less_5 rfl (lv_at hl 0 rfl) ?_
    refine lv_goto (tgt := 10) hx hb d_Mo_less_6 (by decide) ?_
    exact kJ10_1 _ _ _ hS (lv_sub hl [] rfl)
theorem c_Mo_less (l : Launch) (base : Nat) (D : va_G) (cI cZ : ClassId) (h : Hp) (l0 : Int32) (l1 : Int32) {r : Int32} (hM : f_Mo_less l0 l1 = some r) : Ct l base D cI cZ y_Mo_less b_Mo_less 2 (some .int) 0 0 0 0 h [.int l0, .int l1] h (some (.int r)) :=
  ct_of (by decide) (Nat.le_of_ble_eq_true rfl) (fun p e s m below meth c ls C hS hl => t_Mo_less C hM _ _ _ hS hl)
theorem d_Mo_greater_0 : decode b_Mo_greater 0 = .ok (.iload_n 0, 1) := by decide +kernel
theorem d_Mo_greater_1 : decode b_Mo_greater 1 = .ok (.iload_n 1, 1) := by decide +kernel
theorem d_Mo_greater_2 : decode b_Mo_greater 2 = .ok (.if_icmp .le 7, 3) := by decide +kernel
theorem d_Mo_greater_5 : decode b_Mo_greater 5 = .ok (.iload_n 0, 1) := by decide +kernel
theorem d_Mo_greater_6 : decode b_Mo_greater 6 = .ok (.goto 4, 3) := by decide +kernel
theorem d_Mo_greater_9 : decode b_Mo_greater 9 = .ok (.iload_n 1, 1) := by decide +kernel
theorem d_Mo_greater_10 : decode b_Mo_greater 10 = .ok (.ireturn, 1) := by decide +kernel
def f_Mo_greater (l0 : Int32) (l1 : Int32) : Option Int32 :=
  some (if l0 ≤ l1 then (l1) else (l0))
set_option maxHeartbeats 4000000 in
set_option maxRecDepth 100000 in
theorem t_Mo_greater {h : Hp} {l0 : Int32} {l1 : Int32} {r : Int32} (C : Cx base D cI cZ b_Mo_greater 2 "MovedFoldersModel" "greater" (some .int) p s m args meth c) (hM : f_Mo_greater l0 l1 = some r) (H : Heap) (locs : List Loc) (ls : Array Slot) (hS : RS base D cI cZ s H locs h) (hl : lv_has ls 2 [(0, .int l0), (1, .int l1)]) : Wg l base D cI cZ 0 0 0 0 h (some (.int r)) p e s m args below meth c H locs 0 0 (F0 m 0 ls []) := by
  have hx := C.1
  have hb := C.2.1
  unfold f_Mo_greater at hM
  refine lv_iload_n hx hb d_Mo_greater_0 rfl (lv_at hl 0 rfl) ?_
  refine lv_iload_n hx hb d_Mo_greater_1 rfl (lv_at hl 1 rfl) ?_
  have kJ10_1 : ∀ (H : Heap) (locs : List Loc) (ls : Array Slot), RS base D cI cZ s H locs h → lv_has ls 2 [] → Wg l base D cI cZ 0 0 0 0 h (some (.int r)) p e s m args below meth c H locs 0 0 (F0 m 10 ls [.int (if l0 ≤ l1 then (l1) else (l0))]) := by
    intro H locs ls hS hl
    obtain rfl := Option.some.inj hM
    exact r_iret C hS d_Mo_greater_10
  refine lv_icmp_le (tgt := 9) hx hb d_Mo_greater_2 (by decide) (fun c2_2 => ?_) (fun c2_2 => ?_)
  · rw [if_pos c2_2] at kJ10_1
    refine lv_iload_n hx hb d_Mo_greater_9 rfl (lv_at hl 1 rfl) ?_
    exact kJ10_1 _ _ _ hS (lv_sub hl [] rfl)
  · rw [if_neg c2_2] at kJ10_1
    refine lv_iload_n hx hb d_Mo_greater_5 rfl (lv_at hl 0 rfl) ?_
    refine lv_goto (tgt := 10) hx hb d_Mo_greater_6 (by decide) ?_
    exact kJ10_1 _ _ _ hS (lv_sub hl [] rfl)
theorem c_Mo_greater (l : Launch) (base : Nat) (D : va_G) (cI cZ : ClassId) (h : Hp) (l0 : Int32) (l1 : Int32) {r : Int32} (hM : f_Mo_greater l0 l1 = some r) : Ct l base D cI cZ y_Mo_greater b_Mo_greater 2 (some .int) 0 0 0 0 h [.int l0, .int l1] h (some (.int r)) :=
  ct_of (by decide) (Nat.le_of_ble_eq_true rfl) (fun p e s m below meth c ls C hS hl => t_Mo_greater C hM _ _ _ hS hl)
theorem d_Mo_isFile_0 : decode b_Mo_isFile 0 = .ok (.iload_n 1, 1) := by decide +kernel
theorem d_Mo_isFile_1 : decode b_Mo_isFile 1 = .ok (.invokestatic 69, 3) := by decide +kernel
theorem d_Mo_isFile_4 : decode b_Mo_isFile 4 = .ok (.ifCond .eq 25, 3) := by decide +kernel
theorem d_Mo_isFile_7 : decode b_Mo_isFile 7 = .ok (.iload_n 2, 1) := by decide +kernel
theorem d_Mo_isFile_8 : decode b_Mo_isFile 8 = .ok (.i2l, 1) := by decide +kernel
theorem d_Mo_isFile_9 : decode b_Mo_isFile 9 = .ok (.lconst 0, 1) := by decide +kernel
theorem d_Mo_isFile_10 : decode b_Mo_isFile 10 = .ok (.aload_n 0, 1) := by decide +kernel
theorem d_Mo_isFile_11 : decode b_Mo_isFile 11 = .ok (.getfield 16, 3) := by decide +kernel
theorem d_Mo_isFile_14 : decode b_Mo_isFile 14 = .ok (.iload_n 1, 1) := by decide +kernel
theorem d_Mo_isFile_15 : decode b_Mo_isFile 15 = .ok (.iaload, 1) := by decide +kernel
theorem d_Mo_isFile_16 : decode b_Mo_isFile 16 = .ok (.iconst 1, 1) := by decide +kernel
theorem d_Mo_isFile_17 : decode b_Mo_isFile 17 = .ok (.isub, 1) := by decide +kernel
theorem d_Mo_isFile_18 : decode b_Mo_isFile 18 = .ok (.i2l, 1) := by decide +kernel
theorem d_Mo_isFile_19 : decode b_Mo_isFile 19 = .ok (.invokestatic 65, 3) := by decide +kernel
theorem d_Mo_isFile_22 : decode b_Mo_isFile 22 = .ok (.ifCond .eq 7, 3) := by decide +kernel
theorem d_Mo_isFile_25 : decode b_Mo_isFile 25 = .ok (.iconst 1, 1) := by decide +kernel
theorem d_Mo_isFile_26 : decode b_Mo_isFile 26 = .ok (.goto 4, 3) := by decide +kernel
theorem d_Mo_isFile_29 : decode b_Mo_isFile 29 = .ok (.iconst 0, 1) := by decide +kernel
theorem d_Mo_isFile_30 : decode b_Mo_isFile 30 = .ok (.ireturn, 1) := by decide +kernel
def f_Mo_isFile (h : Hp) (l0 : Nat) (l1 : Int32) (l2 : Int32) : Option Int32 :=
  ck h 9 l0 (
    (f_Mo_isTree l1).bind fun t1 =>
    (
      if t1 = (0 : Int32) then (
        some (0 : Int32)
      ) else (
        (gR h 9 l0 2).bind fun t3 =>
        (gA h false t3 l1).bind fun t4 =>
        (f_Mo_in (l2.toInt64) (0 : Int64) ((t4 - (1 : Int32)).toInt64)).bind fun t5 =>
        if t5 = (0 : Int32) then (
          some (0 : Int32)
        ) else (
          some (1 : Int32)
        )
      )
    ).bind fun t2 =>
    rz t2
  )
theorem o_Mo_isFile {h : Hp} {l0 : Nat} {l1 : Int32} {l2 : Int32} {r : Int32} (hM : f_Mo_isFile h l0 l1 l2 = some r) : isO h 9 l0 = true := by
  unfold f_Mo_isFile at hM
  exact (ck_some hM).1
set_option maxHeartbeats 4000000 in
set_option maxRecDepth 100000 in
theorem t_Mo_isFile {h : Hp} {l0 : Nat} {l1 : Int32} {l2 : Int32} {r : Int32} (C : Cx base D cI cZ b_Mo_isFile 3 "MovedFoldersModel" "isFile" (some .boolean) p s m args meth c) (hM : f_Mo_isFile h l0 l1 l2 = some r) (H : Heap) (locs : List Loc) (ls : Array Slot) (hS : RS base D cI cZ s H locs h) (hl : lv_has ls 3 [(0, .ref (base + l0)), (1, .int l1), (2, .int l2)]) : Wg l base D cI cZ 2 45 0 0 h (some (.int r)) p e s m args below meth c H locs 0 0 (F0 m 0 ls []) := by
  have hx := C.1
  have hb := C.2.1
  unfold f_Mo_isFile at hM
  replace hM := (ck_some hM).2
  refine lv_iload_n hx hb d_Mo_isFile_0 rfl (lv_at hl 1 rfl) ?_
  obtain ⟨t1, et1, hM⟩ := bS hM
  refine r_callSi (x := t1) C hS cs_Mo_69 (c_Mo_isTree l base D cI cZ h l1 et1) (rest := []) rfl hl.1 rfl (Nat.le_of_ble_eq_true rfl) ⟨(Nat.le_of_ble_eq_true rfl), (Nat.le_of_ble_eq_true rfl)⟩ ⟨(Nat.le_of_ble_eq_true rfl), (Nat.le_of_ble_eq_true rfl)⟩ d_Mo_isFile_1 (fun H locs hS => ?_)
  obtain ⟨t2, et2, hM⟩ := bS hM
  have kJ30_1 : ∀ (H : Heap) (locs : List Loc) (ls : Array Slot), RS base D cI cZ s H locs h → lv_has ls 3 [] → Wg l base D cI cZ 2 45 0 0 h (some (.int r)) p e s m args below meth c H locs 0 0 (F0 m 30 ls [.int t2]) := by
    intro H locs ls hS hl
    exact r_zret C hS hM d_Mo_isFile_30
  refine lv_if_eq (tgt := 29) hx hb d_Mo_isFile_4 (by decide) (fun c4_2 => ?_) (fun c4_2 => ?_)
  · rw [if_pos c4_2] at et2
    refine lv_iconst (v := (0 : Int32)) hx hb d_Mo_isFile_29 (by decide) ?_
    obtain rfl := Option.some.inj et2
    exact kJ30_1 _ _ _ hS (lv_sub hl [] rfl)
  · rw [if_neg c4_2] at et2
    refine lv_iload_n hx hb d_Mo_isFile_7 rfl (lv_at hl 2 rfl) ?_
    refine lv_i2l (v := (l2.toInt64)) hx hb d_Mo_isFile_8 rfl ?_
    refine lv_lconst (v := (0 : Int64)) hx hb d_Mo_isFile_9 (by decide) ?_
    refine lv_aload_n hx hb d_Mo_isFile_10 rfl (lv_at hl 0 rfl) ?_
    obtain ⟨t3, et3, et2⟩ := bS et2
    refine r_getR C hS fl_Mo_16 et3 d_Mo_isFile_11 ?_
    refine lv_iload_n hx hb d_Mo_isFile_14 rfl (lv_at hl 1 rfl) ?_
    obtain ⟨t4, et4, et2⟩ := bS et2
    refine r_iald C hS et4 d_Mo_isFile_15 ?_
    refine lv_iconst (v := (1 : Int32)) hx hb d_Mo_isFile_16 (by decide) ?_
    refine lv_isub hx hb d_Mo_isFile_17 ?_
    refine lv_i2l (v := ((t4 - (1 : Int32)).toInt64)) hx hb d_Mo_isFile_18 rfl ?_
    obtain ⟨t5, et5, et2⟩ := bS et2
    refine r_callSi (x := t5) C hS cs_Mo_65 (c_Mo_in l base D cI cZ h (l2.toInt64) (0 : Int64) ((t4 - (1 : Int32)).toInt64) et5) (rest := []) rfl hl.1 rfl (Nat.le_of_ble_eq_true rfl) ⟨(Nat.le_of_ble_eq_true rfl), (Nat.le_of_ble_eq_true rfl)⟩ ⟨(Nat.le_of_ble_eq_true rfl), (Nat.le_of_ble_eq_true rfl)⟩ d_Mo_isFile_19 (fun H locs hS => ?_)
    refine lv_if_eq (tgt := 29) hx hb d_Mo_isFile_22 (by decide) (fun c22_3 => ?_) (fun c22_3 => ?_)
    · rw [if_pos c22_3] at et2
      refine lv_iconst (v := (0 : Int32)) hx hb d_Mo_isFile_29 (by decide) ?_
      obtain rfl := Option.some.inj et2
      exact kJ30_1 _ _ _ hS (lv_sub hl [] rfl)
    · rw [if_neg c22_3] at et2
      refine lv_iconst (v := (1 : Int32)) hx hb d_Mo_isFile_25 (by decide) ?_
      refine lv_goto (tgt := 30) hx hb d_Mo_isFile_26 (by decide) ?_
      obtain rfl := Option.some.inj et2
      exact kJ30_1 _ _ _ hS (lv_sub hl [] rfl)
theorem c_Mo_isFile (l : Launch) (base : Nat) (D : va_G) (cI cZ : ClassId) (h : Hp) (l0 : Nat) (l1 : Int32) (l2 : Int32) {r : Int32} (hM : f_Mo_isFile h l0 l1 l2 = some r) : Ct l base D cI cZ y_Mo_isFile b_Mo_isFile 3 (some .boolean) 2 45 0 0 h [.ref (base + l0), .int l1, .int l2] h (some (.int r)) :=
  ct_of (by decide) (Nat.le_of_ble_eq_true rfl) (fun p e s m below meth c ls C hS hl => t_Mo_isFile C hM _ _ _ hS hl)
theorem d_Mo_folderAt_0 : decode b_Mo_folderAt 0 = .ok (.aload_n 0, 1) := by decide +kernel
theorem d_Mo_folderAt_1 : decode b_Mo_folderAt 1 = .ok (.getfield 7, 3) := by decide +kernel
theorem d_Mo_folderAt_4 : decode b_Mo_folderAt 4 = .ok (.bipush 12, 2) := by decide +kernel
theorem d_Mo_folderAt_6 : decode b_Mo_folderAt 6 = .ok (.iload_n 1, 1) := by decide +kernel
theorem d_Mo_folderAt_7 : decode b_Mo_folderAt 7 = .ok (.imul, 1) := by decide +kernel
theorem d_Mo_folderAt_8 : decode b_Mo_folderAt 8 = .ok (.iload_n 2, 1) := by decide +kernel
theorem d_Mo_folderAt_9 : decode b_Mo_folderAt 9 = .ok (.iadd, 1) := by decide +kernel
theorem d_Mo_folderAt_10 : decode b_Mo_folderAt 10 = .ok (.iaload, 1) := by decide +kernel
theorem d_Mo_folderAt_11 : decode b_Mo_folderAt 11 = .ok (.bipush 10, 2) := by decide +kernel
theorem d_Mo_folderAt_13 : decode b_Mo_folderAt 13 = .ok (.idiv, 1) := by decide +kernel
theorem d_Mo_folderAt_14 : decode b_Mo_folderAt 14 = .ok (.ireturn, 1) := by decide +kernel
def f_Mo_folderAt (h : Hp) (l0 : Nat) (l1 : Int32) (l2 : Int32) : Option Int32 :=
  ck h 9 l0 (
    (gR h 9 l0 0).bind fun t1 =>
    (gA h false t1 (((12 : Int32) * l1) + l2)).bind fun t2 =>
    some (t2 / (10 : Int32))
  )
theorem o_Mo_folderAt {h : Hp} {l0 : Nat} {l1 : Int32} {l2 : Int32} {r : Int32} (hM : f_Mo_folderAt h l0 l1 l2 = some r) : isO h 9 l0 = true := by
  unfold f_Mo_folderAt at hM
  exact (ck_some hM).1
set_option maxHeartbeats 4000000 in
set_option maxRecDepth 100000 in
theorem t_Mo_folderAt {h : Hp} {l0 : Nat} {l1 : Int32} {l2 : Int32} {r : Int32} (C : Cx base D cI cZ b_Mo_folderAt 3 "MovedFoldersModel" "folderAt" (some .int) p s m args meth c) (hM : f_Mo_folderAt h l0 l1 l2 = some r) (H : Heap) (locs : List Loc) (ls : Array Slot) (hS : RS base D cI cZ s H locs h) (hl : lv_has ls 3 [(0, .ref (base + l0)), (1, .int l1), (2, .int l2)]) : Wg l base D cI cZ 0 0 0 0 h (some (.int r)) p e s m args below meth c H locs 0 0 (F0 m 0 ls []) := by
  have hx := C.1
  have hb := C.2.1
  unfold f_Mo_folderAt at hM
  replace hM := (ck_some hM).2
  refine lv_aload_n hx hb d_Mo_folderAt_0 rfl (lv_at hl 0 rfl) ?_
  obtain ⟨t1, et1, hM⟩ := bS hM
  refine r_getR C hS fl_Mo_7 et1 d_Mo_folderAt_1 ?_
  refine lv_bipush (v := (12 : Int32)) hx hb d_Mo_folderAt_4 (by decide) ?_
  refine lv_iload_n hx hb d_Mo_folderAt_6 rfl (lv_at hl 1 rfl) ?_
  refine lv_imul hx hb d_Mo_folderAt_7 ?_
  refine lv_iload_n hx hb d_Mo_folderAt_8 rfl (lv_at hl 2 rfl) ?_
  refine lv_iadd hx hb d_Mo_folderAt_9 ?_
  obtain ⟨t2, et2, hM⟩ := bS hM
  refine r_iald C hS et2 d_Mo_folderAt_10 ?_
  refine lv_bipush (v := (10 : Int32)) hx hb d_Mo_folderAt_11 (by decide) ?_
  refine lv_idiv hx hb d_Mo_folderAt_13 (by decide) ?_
  obtain rfl := Option.some.inj hM
  exact r_iret C hS d_Mo_folderAt_14
theorem c_Mo_folderAt (l : Launch) (base : Nat) (D : va_G) (cI cZ : ClassId) (h : Hp) (l0 : Nat) (l1 : Int32) (l2 : Int32) {r : Int32} (hM : f_Mo_folderAt h l0 l1 l2 = some r) : Ct l base D cI cZ y_Mo_folderAt b_Mo_folderAt 3 (some .int) 0 0 0 0 h [.ref (base + l0), .int l1, .int l2] h (some (.int r)) :=
  ct_of (by decide) (Nat.le_of_ble_eq_true rfl) (fun p e s m below meth c ls C hS hl => t_Mo_folderAt C hM _ _ _ hS hl)
theorem d_Mo_nameAt_0 : decode b_Mo_nameAt 0 = .ok (.aload_n 0, 1) := by decide +kernel
theorem d_Mo_nameAt_1 : decode b_Mo_nameAt 1 = .ok (.getfield 7, 3) := by decide +kernel
theorem d_Mo_nameAt_4 : decode b_Mo_nameAt 4 = .ok (.bipush 12, 2) := by decide +kernel
theorem d_Mo_nameAt_6 : decode b_Mo_nameAt 6 = .ok (.iload_n 1, 1) := by decide +kernel
theorem d_Mo_nameAt_7 : decode b_Mo_nameAt 7 = .ok (.imul, 1) := by decide +kernel
theorem d_Mo_nameAt_8 : decode b_Mo_nameAt 8 = .ok (.iload_n 2, 1) := by decide +kernel
theorem d_Mo_nameAt_9 : decode b_Mo_nameAt 9 = .ok (.iadd, 1) := by decide +kernel
theorem d_Mo_nameAt_10 : decode b_Mo_nameAt 10 = .ok (.iaload, 1) := by decide +kernel
theorem d_Mo_nameAt_11 : decode b_Mo_nameAt 11 = .ok (.bipush 10, 2) := by decide +kernel
theorem d_Mo_nameAt_13 : decode b_Mo_nameAt 13 = .ok (.irem, 1) := by decide +kernel
theorem d_Mo_nameAt_14 : decode b_Mo_nameAt 14 = .ok (.ireturn, 1) := by decide +kernel
def f_Mo_nameAt (h : Hp) (l0 : Nat) (l1 : Int32) (l2 : Int32) : Option Int32 :=
  ck h 9 l0 (
    (gR h 9 l0 0).bind fun t1 =>
    (gA h false t1 (((12 : Int32) * l1) + l2)).bind fun t2 =>
    some (irem t2 (10 : Int32))
  )
theorem o_Mo_nameAt {h : Hp} {l0 : Nat} {l1 : Int32} {l2 : Int32} {r : Int32} (hM : f_Mo_nameAt h l0 l1 l2 = some r) : isO h 9 l0 = true := by
  unfold f_Mo_nameAt at hM
  exact (ck_some hM).1
set_option maxHeartbeats 4000000 in
set_option maxRecDepth 100000 in
theorem t_Mo_nameAt {h : Hp} {l0 : Nat} {l1 : Int32} {l2 : Int32} {r : Int32} (C : Cx base D cI cZ b_Mo_nameAt 3 "MovedFoldersModel" "nameAt" (some .int) p s m args meth c) (hM : f_Mo_nameAt h l0 l1 l2 = some r) (H : Heap) (locs : List Loc) (ls : Array Slot) (hS : RS base D cI cZ s H locs h) (hl : lv_has ls 3 [(0, .ref (base + l0)), (1, .int l1), (2, .int l2)]) : Wg l base D cI cZ 0 0 0 0 h (some (.int r)) p e s m args below meth c H locs 0 0 (F0 m 0 ls []) := by
  have hx := C.1
  have hb := C.2.1
  unfold f_Mo_nameAt at hM
  replace hM := (ck_some hM).2
  refine lv_aload_n hx hb d_Mo_nameAt_0 rfl (lv_at hl 0 rfl) ?_
  obtain ⟨t1, et1, hM⟩ := bS hM
  refine r_getR C hS fl_Mo_7 et1 d_Mo_nameAt_1 ?_
  refine lv_bipush (v := (12 : Int32)) hx hb d_Mo_nameAt_4 (by decide) ?_
  refine lv_iload_n hx hb d_Mo_nameAt_6 rfl (lv_at hl 1 rfl) ?_
  refine lv_imul hx hb d_Mo_nameAt_7 ?_
  refine lv_iload_n hx hb d_Mo_nameAt_8 rfl (lv_at hl 2 rfl) ?_
  refine lv_iadd hx hb d_Mo_nameAt_9 ?_
  obtain ⟨t2, et2, hM⟩ := bS hM
  refine r_iald C hS et2 d_Mo_nameAt_10 ?_
  refine lv_bipush (v := (10 : Int32)) hx hb d_Mo_nameAt_11 (by decide) ?_
  refine r_irem hx hb d_Mo_nameAt_13 (by decide) ?_
  obtain rfl := Option.some.inj hM
  exact r_iret C hS d_Mo_nameAt_14
theorem c_Mo_nameAt (l : Launch) (base : Nat) (D : va_G) (cI cZ : ClassId) (h : Hp) (l0 : Nat) (l1 : Int32) (l2 : Int32) {r : Int32} (hM : f_Mo_nameAt h l0 l1 l2 = some r) : Ct l base D cI cZ y_Mo_nameAt b_Mo_nameAt 3 (some .int) 0 0 0 0 h [.ref (base + l0), .int l1, .int l2] h (some (.int r)) :=
  ct_of (by decide) (Nat.le_of_ble_eq_true rfl) (fun p e s m below meth c ls C hS hl => t_Mo_nameAt C hM _ _ _ hS hl)
theorem d_Mo_contentAt_0 : decode b_Mo_contentAt 0 = .ok (.aload_n 0, 1) := by decide +kernel
theorem d_Mo_contentAt_1 : decode b_Mo_contentAt 1 = .ok (.getfield 13, 3) := by decide +kernel
theorem d_Mo_contentAt_4 : decode b_Mo_contentAt 4 = .ok (.bipush 12, 2) := by decide +kernel
theorem d_Mo_contentAt_6 : decode b_Mo_contentAt 6 = .ok (.iload_n 1, 1) := by decide +kernel
theorem d_Mo_contentAt_7 : decode b_Mo_contentAt 7 = .ok (.imul, 1) := by decide +kernel
theorem d_Mo_contentAt_8 : decode b_Mo_contentAt 8 = .ok (.iload_n 2, 1) := by decide +kernel
theorem d_Mo_contentAt_9 : decode b_Mo_contentAt 9 = .ok (.iadd, 1) := by decide +kernel
theorem d_Mo_contentAt_10 : decode b_Mo_contentAt 10 = .ok (.iaload, 1) := by decide +kernel
theorem d_Mo_contentAt_11 : decode b_Mo_contentAt 11 = .ok (.ireturn, 1) := by decide +kernel
def f_Mo_contentAt (h : Hp) (l0 : Nat) (l1 : Int32) (l2 : Int32) : Option Int32 :=
  ck h 9 l0 (
    (gR h 9 l0 1).bind fun t1 =>
    (gA h false t1 (((12 : Int32) * l1) + l2)).bind fun t2 =>
    some t2
  )
theorem o_Mo_contentAt {h : Hp} {l0 : Nat} {l1 : Int32} {l2 : Int32} {r : Int32} (hM : f_Mo_contentAt h l0 l1 l2 = some r) : isO h 9 l0 = true := by
  unfold f_Mo_contentAt at hM
  exact (ck_some hM).1
set_option maxHeartbeats 4000000 in
set_option maxRecDepth 100000 in
theorem t_Mo_contentAt {h : Hp} {l0 : Nat} {l1 : Int32} {l2 : Int32} {r : Int32} (C : Cx base D cI cZ b_Mo_contentAt 3 "MovedFoldersModel" "contentAt" (some .int) p s m args meth c) (hM : f_Mo_contentAt h l0 l1 l2 = some r) (H : Heap) (locs : List Loc) (ls : Array Slot) (hS : RS base D cI cZ s H locs h) (hl : lv_has ls 3 [(0, .ref (base + l0)), (1, .int l1), (2, .int l2)]) : Wg l base D cI cZ 0 0 0 0 h (some (.int r)) p e s m args below meth c H locs 0 0 (F0 m 0 ls []) := by
  have hx := C.1
  have hb := C.2.1
  unfold f_Mo_contentAt at hM
  replace hM := (ck_some hM).2
  refine lv_aload_n hx hb d_Mo_contentAt_0 rfl (lv_at hl 0 rfl) ?_
  obtain ⟨t1, et1, hM⟩ := bS hM
  refine r_getR C hS fl_Mo_13 et1 d_Mo_contentAt_1 ?_
  refine lv_bipush (v := (12 : Int32)) hx hb d_Mo_contentAt_4 (by decide) ?_
  refine lv_iload_n hx hb d_Mo_contentAt_6 rfl (lv_at hl 1 rfl) ?_
  refine lv_imul hx hb d_Mo_contentAt_7 ?_
  refine lv_iload_n hx hb d_Mo_contentAt_8 rfl (lv_at hl 2 rfl) ?_
  refine lv_iadd hx hb d_Mo_contentAt_9 ?_
  obtain ⟨t2, et2, hM⟩ := bS hM
  refine r_iald C hS et2 d_Mo_contentAt_10 ?_
  obtain rfl := Option.some.inj hM
  exact r_iret C hS d_Mo_contentAt_11
theorem c_Mo_contentAt (l : Launch) (base : Nat) (D : va_G) (cI cZ : ClassId) (h : Hp) (l0 : Nat) (l1 : Int32) (l2 : Int32) {r : Int32} (hM : f_Mo_contentAt h l0 l1 l2 = some r) : Ct l base D cI cZ y_Mo_contentAt b_Mo_contentAt 3 (some .int) 0 0 0 0 h [.ref (base + l0), .int l1, .int l2] h (some (.int r)) :=
  ct_of (by decide) (Nat.le_of_ble_eq_true rfl) (fun p e s m below meth c ls C hS hl => t_Mo_contentAt C hM _ _ _ hS hl)
theorem d_Mo_isFolder_0 : decode b_Mo_isFolder 0 = .ok (.iload_n 0, 1) := by decide +kernel
theorem d_Mo_isFolder_1 : decode b_Mo_isFolder 1 = .ok (.bipush 100, 2) := by decide +kernel
theorem d_Mo_isFolder_3 : decode b_Mo_isFolder 3 = .ok (.idiv, 1) := by decide +kernel
theorem d_Mo_isFolder_4 : decode b_Mo_isFolder 4 = .ok (.istore_n 1, 1) := by decide +kernel
theorem d_Mo_isFolder_5 : decode b_Mo_isFolder 5 = .ok (.iload_n 0, 1) := by decide +kernel
theorem d_Mo_isFolder_6 : decode b_Mo_isFolder 6 = .ok (.bipush 10, 2) := by decide +kernel
theorem d_Mo_isFolder_8 : decode b_Mo_isFolder 8 = .ok (.idiv, 1) := by decide +kernel
theorem d_Mo_isFolder_9 : decode b_Mo_isFolder 9 = .ok (.bipush 10, 2) := by decide +kernel
theorem d_Mo_isFolder_11 : decode b_Mo_isFolder 11 = .ok (.irem, 1) := by decide +kernel
theorem d_Mo_isFolder_12 : decode b_Mo_isFolder 12 = .ok (.istore_n 2, 1) := by decide +kernel
theorem d_Mo_isFolder_13 : decode b_Mo_isFolder 13 = .ok (.iload_n 0, 1) := by decide +kernel
theorem d_Mo_isFolder_14 : decode b_Mo_isFolder 14 = .ok (.bipush 10, 2) := by decide +kernel
theorem d_Mo_isFolder_16 : decode b_Mo_isFolder 16 = .ok (.irem, 1) := by decide +kernel
theorem d_Mo_isFolder_17 : decode b_Mo_isFolder 17 = .ok (.istore_n 3, 1) := by decide +kernel
theorem d_Mo_isFolder_18 : decode b_Mo_isFolder 18 = .ok (.iload_n 0, 1) := by decide +kernel
theorem d_Mo_isFolder_19 : decode b_Mo_isFolder 19 = .ok (.i2l, 1) := by decide +kernel
theorem d_Mo_isFolder_20 : decode b_Mo_isFolder 20 = .ok (.lconst 0, 1) := by decide +kernel
theorem d_Mo_isFolder_21 : decode b_Mo_isFolder 21 = .ok (.ldc2_w 73, 3) := by decide +kernel
theorem d_Mo_isFolder_24 : decode b_Mo_isFolder 24 = .ok (.invokestatic 65, 3) := by decide +kernel
theorem d_Mo_isFolder_27 : decode b_Mo_isFolder 27 = .ok (.ifCond .eq 33, 3) := by decide +kernel
theorem d_Mo_isFolder_30 : decode b_Mo_isFolder 30 = .ok (.iload_n 2, 1) := by decide +kernel
theorem d_Mo_isFolder_31 : decode b_Mo_isFolder 31 = .ok (.iconst 4, 1) := by decide +kernel
theorem d_Mo_isFolder_32 : decode b_Mo_isFolder 32 = .ok (.if_icmp .gt 28, 3) := by decide +kernel
theorem d_Mo_isFolder_35 : decode b_Mo_isFolder 35 = .ok (.iload_n 3, 1) := by decide +kernel
theorem d_Mo_isFolder_36 : decode b_Mo_isFolder 36 = .ok (.iconst 4, 1) := by decide +kernel
theorem d_Mo_isFolder_37 : decode b_Mo_isFolder 37 = .ok (.if_icmp .gt 23, 3) := by decide +kernel
theorem d_Mo_isFolder_40 : decode b_Mo_isFolder 40 = .ok (.iload_n 1, 1) := by decide +kernel
theorem d_Mo_isFolder_41 : decode b_Mo_isFolder 41 = .ok (.ifCond .gt 7, 3) := by decide +kernel
theorem d_Mo_isFolder_44 : decode b_Mo_isFolder 44 = .ok (.iload_n 2, 1) := by decide +kernel
theorem d_Mo_isFolder_45 : decode b_Mo_isFolder 45 = .ok (.ifCond .ne 15, 3) := by decide +kernel
theorem d_Mo_isFolder_48 : decode b_Mo_isFolder 48 = .ok (.iload_n 2, 1) := by decide +kernel
theorem d_Mo_isFolder_49 : decode b_Mo_isFolder 49 = .ok (.ifCond .gt 7, 3) := by decide +kernel
theorem d_Mo_isFolder_52 : decode b_Mo_isFolder 52 = .ok (.iload_n 3, 1) := by decide +kernel
theorem d_Mo_isFolder_53 : decode b_Mo_isFolder 53 = .ok (.ifCond .ne 7, 3) := by decide +kernel
theorem d_Mo_isFolder_56 : decode b_Mo_isFolder 56 = .ok (.iconst 1, 1) := by decide +kernel
theorem d_Mo_isFolder_57 : decode b_Mo_isFolder 57 = .ok (.goto 4, 3) := by decide +kernel
theorem d_Mo_isFolder_60 : decode b_Mo_isFolder 60 = .ok (.iconst 0, 1) := by decide +kernel
theorem d_Mo_isFolder_61 : decode b_Mo_isFolder 61 = .ok (.ireturn, 1) := by decide +kernel
def f_Mo_isFolder (l0 : Int32) : Option Int32 :=
  (f_Mo_in (l0.toInt64) (0 : Int64) (444 : Int64)).bind fun t1 =>
  rz (if t1 = (0 : Int32) then ((0 : Int32)) else (if (4 : Int32) < (irem (l0 / (10 : Int32)) (10 : Int32)) then ((0 : Int32)) else (if (4 : Int32) < (irem l0 (10 : Int32)) then ((0 : Int32)) else (if (0 : Int32) < (l0 / (100 : Int32)) then (if (0 : Int32) < (irem (l0 / (10 : Int32)) (10 : Int32)) then ((1 : Int32)) else (if (irem l0 (10 : Int32)) = (0 : Int32) then ((1 : Int32)) else ((0 : Int32)))) else (if (irem (l0 / (10 : Int32)) (10 : Int32)) = (0 : Int32) then (if (0 : Int32) < (irem (l0 / (10 : Int32)) (10 : Int32)) then ((1 : Int32)) else (if (irem l0 (10 : Int32)) = (0 : Int32) then ((1 : Int32)) else ((0 : Int32)))) else ((0 : Int32)))))))
set_option maxHeartbeats 4000000 in
set_option maxRecDepth 100000 in
theorem t_Mo_isFolder {h : Hp} {l0 : Int32} {r : Int32} (C : Cx base D cI cZ b_Mo_isFolder 4 "MovedFoldersModel" "isFolder" (some .boolean) p s m args meth c) (hM : f_Mo_isFolder l0 = some r) (H : Heap) (locs : List Loc) (ls : Array Slot) (hS : RS base D cI cZ s H locs h) (hl : lv_has ls 4 [(0, .int l0)]) : Wg l base D cI cZ 1 25 0 0 h (some (.int r)) p e s m args below meth c H locs 0 0 (F0 m 0 ls []) := by
  have hx := C.1
  have hb := C.2.1
  unfold f_Mo_isFolder at hM
  refine lv_iload_n hx hb d_Mo_isFolder_0 rfl (lv_at hl 0 rfl) ?_
  refine lv_bipush (v := (100 : Int32)) hx hb d_Mo_isFolder_1 (by decide) ?_
  refine lv_idiv hx hb d_Mo_isFolder_3 (by decide) ?_
  refine lv_istore_n (lv' := [(1, .int (l0 / (100 : Int32))), (0, .int l0)]) hx hb d_Mo_isFolder_4 rfl hl (by decide) rfl (fun ls hl => ?_)
  refine lv_iload_n hx hb d_Mo_isFolder_5 rfl (lv_at hl 1 rfl) ?_
  refine lv_bipush (v := (10 : Int32)) hx hb d_Mo_isFolder_6 (by decide) ?_
  refine lv_idiv hx hb d_Mo_isFolder_8 (by decide) ?_
  refine lv_bipush (v := (10 : Int32)) hx hb d_Mo_isFolder_9 (by decide) ?_
  refine r_irem hx hb d_Mo_isFolder_11 (by decide) ?_
  refine lv_istore_n (lv' := [(2, .int (irem (l0 / (10 : Int32)) (10 : Int32))), (1, .int (l0 / (100 : Int32))), (0, .int l0)]) hx hb d_Mo_isFolder_12 rfl hl (by decide) rfl (fun ls hl => ?_)
  refine lv_iload_n hx hb d_Mo_isFolder_13 rfl (lv_at hl 2 rfl) ?_
  refine lv_bipush (v := (10 : Int32)) hx hb d_Mo_isFolder_14 (by decide) ?_
  refine r_irem hx hb d_Mo_isFolder_16 (by decide) ?_
  refine lv_istore_n (lv' := [(3, .int (irem l0 (10 : Int32))), (2, .int (irem (l0 / (10 : Int32)) (10 : Int32))), (1, .int (l0 / (100 : Int32))), (0, .int l0)]) hx hb d_Mo_isFolder_17 rfl hl (by decide) rfl (fun ls hl => ?_)
  refine lv_iload_n hx hb d_Mo_isFolder_18 rfl (lv_at hl 3 rfl) ?_
  refine lv_i2l (v := (l0.toInt64)) hx hb d_Mo_isFolder_19 rfl ?_
  refine lv_lconst (v := (0 : Int64)) hx hb d_Mo_isFolder_20 (by decide) ?_
  refine lv_ldc2 (v := (444 : Int64)) hx hb C.2.2.2.1 (C.2.2.2.2.1 _ kl_Mo_73) d_Mo_isFolder_21 ?_
  obtain ⟨t1, et1, hM⟩ := bS hM
  refine r_callSi (x := t1) C hS cs_Mo_65 (c_Mo_in l base D cI cZ h (l0.toInt64) (0 : Int64) (444 : Int64) et1) (rest := []) rfl hl.1 rfl (Nat.le_of_ble_eq_true rfl) ⟨(Nat.le_of_ble_eq_true rfl), (Nat.le_of_ble_eq_true rfl)⟩ ⟨(Nat.le_of_ble_eq_true rfl), (Nat.le_of_ble_eq_true rfl)⟩ d_Mo_isFolder_24 (fun H locs hS => ?_)
  have kJ61_1 : ∀ (H : Heap) (locs : List Loc) (ls : Array Slot), RS base D cI cZ s H locs h → lv_has ls 4 [] → Wg l base D cI cZ 1 25 0 0 h (some (.int r)) p e s m args below meth c H locs 0 0 (F0 m 61 ls [.int (if t1 = (0 : Int32) then ((0 : Int32)) else (if (4 : Int32) < (irem (l0 / (10 : Int32)) (10 : Int32)) then ((0 : Int32)) else (if (4 : Int32) < (irem l0 (10 : Int32)) then ((0 : Int32)) else (if (0 : Int32) < (l0 / (100 : Int32)) then (if (0 : Int32) < (irem (l0 / (10 : Int32)) (10 : Int32)) then ((1 : Int32)) else (if (irem l0 (10 : Int32)) = (0 : Int32) then ((1 : Int32)) else ((0 : Int32)))) else (if (irem (l0 / (10 : Int32)) (10 : Int32)) = (0 : Int32) then (if (0 : Int32) < (irem (l0 / (10 : Int32)) (10 : Int32)) then ((1 : Int32)) else (if (irem l0 (10 : Int32)) = (0 : Int32) then ((1 : Int32)) else ((0 : Int32)))) else ((0 : Int32)))))))]) := by
    intro H locs ls hS hl
    exact r_zret C hS hM d_Mo_isFolder_61
  refine lv_if_eq (tgt := 60) hx hb d_Mo_isFolder_27 (by decide) (fun c27_2 => ?_) (fun c27_2 => ?_)
  · rw [if_pos c27_2] at kJ61_1
    refine lv_iconst (v := (0 : Int32)) hx hb d_Mo_isFolder_60 (by decide) ?_
    exact kJ61_1 _ _ _ hS (lv_sub hl [] rfl)
  · rw [if_neg c27_2] at kJ61_1
    refine lv_iload_n hx hb d_Mo_isFolder_30 rfl (lv_at hl 1 rfl) ?_
    refine lv_iconst (v := (4 : Int32)) hx hb d_Mo_isFolder_31 (by decide) ?_
    refine lv_icmp_gt (tgt := 60) hx hb d_Mo_isFolder_32 (by decide) (fun c32_3 => ?_) (fun c32_3 => ?_)
    · rw [if_pos c32_3] at kJ61_1
      refine lv_iconst (v := (0 : Int32)) hx hb d_Mo_isFolder_60 (by decide) ?_
      exact kJ61_1 _ _ _ hS (lv_sub hl [] rfl)
    · rw [if_neg c32_3] at kJ61_1
      refine lv_iload_n hx hb d_Mo_isFolder_35 rfl (lv_at hl 0 rfl) ?_
      refine lv_iconst (v := (4 : Int32)) hx hb d_Mo_isFolder_36 (by decide) ?_
      refine lv_icmp_gt (tgt := 60) hx hb d_Mo_isFolder_37 (by decide) (fun c37_4 => ?_) (fun c37_4 => ?_)
      · rw [if_pos c37_4] at kJ61_1
        refine lv_iconst (v := (0 : Int32)) hx hb d_Mo_isFolder_60 (by decide) ?_
        exact kJ61_1 _ _ _ hS (lv_sub hl [] rfl)
      · rw [if_neg c37_4] at kJ61_1
        refine lv_iload_n hx hb d_Mo_isFolder_40 rfl (lv_at hl 2 rfl) ?_
        refine lv_if_gt (tgt := 48) hx hb d_Mo_isFolder_41 (by decide) (fun c41_5 => ?_) (fun c41_5 => ?_)
        · rw [if_pos c41_5] at kJ61_1
          refine lv_iload_n hx hb d_Mo_isFolder_48 rfl (lv_at hl 1 rfl) ?_
          refine lv_if_gt (tgt := 56) hx hb d_Mo_isFolder_49 (by decide) (fun c49_6 => ?_) (fun c49_6 => ?_)
          · rw [if_pos c49_6] at kJ61_1
            refine lv_iconst (v := (1 : Int32)) hx hb d_Mo_isFolder_56 (by decide) ?_
            refine lv_goto (tgt := 61) hx hb d_Mo_isFolder_57 (by decide) ?_
            exact kJ61_1 _ _ _ hS (lv_sub hl [] rfl)
          · rw [if_neg c49_6] at kJ61_1
            refine lv_iload_n hx hb d_Mo_isFolder_52 rfl (lv_at hl 0 rfl) ?_
            refine lv_if_ne (tgt := 60) hx hb d_Mo_isFolder_53 (by decide) (fun c53_7 => ?_) (fun c53_7 => ?_)
            · rw [if_neg c53_7] at kJ61_1
              refine lv_iconst (v := (0 : Int32)) hx hb d_Mo_isFolder_60 (by decide) ?_
              exact kJ61_1 _ _ _ hS (lv_sub hl [] rfl)
            · rw [if_pos c53_7] at kJ61_1
              refine lv_iconst (v := (1 : Int32)) hx hb d_Mo_isFolder_56 (by decide) ?_
              refine lv_goto (tgt := 61) hx hb d_Mo_isFolder_57 (by decide) ?_
              exact kJ61_1 _ _ _ hS (lv_sub hl [] rfl)
        · rw [if_neg c41_5] at kJ61_1
          refine lv_iload_n hx hb d_Mo_isFolder_44 rfl (lv_at hl 1 rfl) ?_
          refine lv_if_ne (tgt := 60) hx hb d_Mo_isFolder_45 (by decide) (fun c45_8 => ?_) (fun c45_8 => ?_)
          · rw [if_neg c45_8] at kJ61_1
            refine lv_iconst (v := (0 : Int32)) hx hb d_Mo_isFolder_60 (by decide) ?_
            exact kJ61_1 _ _ _ hS (lv_sub hl [] rfl)
          · rw [if_pos c45_8] at kJ61_1
            refine lv_iload_n hx hb d_Mo_isFolder_48 rfl (lv_at hl 1 rfl) ?_
            refine lv_if_gt (tgt := 56) hx hb d_Mo_isFolder_49 (by decide) (fun c49_9 => ?_) (fun c49_9 => ?_)
            · rw [if_pos c49_9] at kJ61_1
              refine lv_iconst (v := (1 : Int32)) hx hb d_Mo_isFolder_56 (by decide) ?_
              refine lv_goto (tgt := 61) hx hb d_Mo_isFolder_57 (by decide) ?_
              exact kJ61_1 _ _ _ hS (lv_sub hl [] rfl)
            · rw [if_neg c49_9] at kJ61_1
              refine lv_iload_n hx hb d_Mo_isFolder_52 rfl (lv_at hl 0 rfl) ?_
              refine lv_if_ne (tgt := 60) hx hb d_Mo_isFolder_53 (by decide) (fun c53_10 => ?_) (fun c53_10 => ?_)
              · rw [if_neg c53_10] at kJ61_1
                refine lv_iconst (v := (0 : Int32)) hx hb d_Mo_isFolder_60 (by decide) ?_
                exact kJ61_1 _ _ _ hS (lv_sub hl [] rfl)
              · rw [if_pos c53_10] at kJ61_1
                refine lv_iconst (v := (1 : Int32)) hx hb d_Mo_isFolder_56 (by decide) ?_
                refine lv_goto (tgt := 61) hx hb d_Mo_isFolder_57 (by decide) ?_
                exact kJ61_1 _ _ _ hS (lv_sub hl [] rfl)
theorem c_Mo_isFolder (l : Launch) (base : Nat) (D : va_G) (cI cZ : ClassId) (h : Hp) (l0 : Int32) {r : Int32} (hM : f_Mo_isFolder l0 = some r) : Ct l base D cI cZ y_Mo_isFolder b_Mo_isFolder 4 (some .boolean) 1 25 0 0 h [.int l0] h (some (.int r)) :=
  ct_of (by decide) (Nat.le_of_ble_eq_true rfl) (fun p e s m below meth c ls C hS hl => t_Mo_isFolder C hM _ _ _ hS hl)
theorem d_Mo_say_0 : decode b_Mo_say 0 = .ok (.iload_n 1, 1) := by decide +kernel
theorem d_Mo_say_1 : decode b_Mo_say 1 = .ok (.i2l, 1) := by decide +kernel
theorem d_Mo_say_2 : decode b_Mo_say 2 = .ok (.ldc2_w 75, 3) := by decide +kernel
theorem d_Mo_say_5 : decode b_Mo_say 5 = .ok (.ldc2_w 77, 3) := by decide +kernel
theorem d_Mo_say_8 : decode b_Mo_say 8 = .ok (.invokestatic 65, 3) := by decide +kernel
theorem d_Mo_say_11 : decode b_Mo_say 11 = .ok (.ifCond .ne 6, 3) := by decide +kernel
theorem d_Mo_say_14 : decode b_Mo_say 14 = .ok (.bipush (-2), 2) := by decide +kernel
theorem d_Mo_say_16 : decode b_Mo_say 16 = .ok (.ireturn, 1) := by decide +kernel
theorem d_Mo_say_17 : decode b_Mo_say 17 = .ok (.aload_n 0, 1) := by decide +kernel
theorem d_Mo_say_18 : decode b_Mo_say 18 = .ok (.getfield 79, 3) := by decide +kernel
theorem d_Mo_say_21 : decode b_Mo_say 21 = .ok (.bipush 60, 2) := by decide +kernel
theorem d_Mo_say_23 : decode b_Mo_say 23 = .ok (.if_icmp .ne 6, 3) := by decide +kernel
theorem d_Mo_say_26 : decode b_Mo_say 26 = .ok (.bipush (-4), 2) := by decide +kernel
theorem d_Mo_say_28 : decode b_Mo_say 28 = .ok (.ireturn, 1) := by decide +kernel
theorem d_Mo_say_29 : decode b_Mo_say 29 = .ok (.aload_n 0, 1) := by decide +kernel
theorem d_Mo_say_30 : decode b_Mo_say 30 = .ok (.getfield 23, 3) := by decide +kernel
theorem d_Mo_say_33 : decode b_Mo_say 33 = .ok (.aload_n 0, 1) := by decide +kernel
theorem d_Mo_say_34 : decode b_Mo_say 34 = .ok (.getfield 79, 3) := by decide +kernel
theorem d_Mo_say_37 : decode b_Mo_say 37 = .ok (.iload_n 1, 1) := by decide +kernel
theorem d_Mo_say_38 : decode b_Mo_say 38 = .ok (.iastore, 1) := by decide +kernel
theorem d_Mo_say_39 : decode b_Mo_say 39 = .ok (.aload_n 0, 1) := by decide +kernel
theorem d_Mo_say_40 : decode b_Mo_say 40 = .ok (.dup, 1) := by decide +kernel
theorem d_Mo_say_41 : decode b_Mo_say 41 = .ok (.getfield 79, 3) := by decide +kernel
theorem d_Mo_say_44 : decode b_Mo_say 44 = .ok (.iconst 1, 1) := by decide +kernel
theorem d_Mo_say_45 : decode b_Mo_say 45 = .ok (.iadd, 1) := by decide +kernel
theorem d_Mo_say_46 : decode b_Mo_say 46 = .ok (.putfield 79, 3) := by decide +kernel
theorem d_Mo_say_49 : decode b_Mo_say 49 = .ok (.aload_n 0, 1) := by decide +kernel
theorem d_Mo_say_50 : decode b_Mo_say 50 = .ok (.getfield 79, 3) := by decide +kernel
theorem d_Mo_say_53 : decode b_Mo_say 53 = .ok (.ireturn, 1) := by decide +kernel
def f_Mo_say (h : Hp) (l0 : Nat) (l1 : Int32) : Option (Int32 × Hp) :=
  ck h 9 l0 (
    (f_Mo_in (l1.toInt64) (33 : Int64) (126 : Int64)).bind fun t1 =>
    if t1 = (0 : Int32) then (
      some ((-2 : Int32), h)
    ) else (
      (gI h 9 l0 5).bind fun t2 =>
      if t2 = (60 : Int32) then (
        some ((-4 : Int32), h)
      ) else (
        (gR h 9 l0 4).bind fun t3 =>
        (gI h 9 l0 5).bind fun t4 =>
        (sA h t3 t4 l1).bind fun h5 =>
        (gI h5 9 l0 5).bind fun t6 =>
        (sI h5 9 l0 5 (t6 + (1 : Int32))).bind fun h7 =>
        (gI h7 9 l0 5).bind fun t8 =>
        some (t8, h7)
      )
    )
  )
theorem o_Mo_say {h : Hp} {l0 : Nat} {l1 : Int32} {r : (Int32 × Hp)} (hM : f_Mo_say h l0 l1 = some r) : isO h 9 l0 = true := by
  unfold f_Mo_say at hM
  exact (ck_some hM).1
set_option maxHeartbeats 4000000 in
set_option maxRecDepth 100000 in
theorem t_Mo_say {h : Hp} {l0 : Nat} {l1 : Int32} {r : (Int32 × Hp)} (C : Cx base D cI cZ b_Mo_say 2 "MovedFoldersModel" "say" (some .int) p s m args meth c) (hM : f_Mo_say h l0 l1 = some r) (H : Heap) (locs : List Loc) (ls : Array Slot) (hS : RS base D cI cZ s H locs h) (hl : lv_has ls 2 [(0, .ref (base + l0)), (1, .int l1)]) : Wg l base D cI cZ 1 25 0 0 r.2 (some (.int r.1)) p e s m args below meth c H locs 0 0 (F0 m 0 ls []) := by
  have hx := C.1
  have hb := C.2.1
  unfold f_Mo_say at hM
  replace hM := (ck_some hM).2
  refine lv_iload_n hx hb d_Mo_say_0 rfl (lv_at hl 1 rfl) ?_
  refine lv_i2l (v := (l1.toInt64)) hx hb d_Mo_say_1 rfl ?_
  refine lv_ldc2 (v := (33 : Int64)) hx hb C.2.2.2.1 (C.2.2.2.2.1 _ kl_Mo_75) d_Mo_say_2 ?_
  refine lv_ldc2 (v := (126 : Int64)) hx hb C.2.2.2.1 (C.2.2.2.2.1 _ kl_Mo_77) d_Mo_say_5 ?_
  obtain ⟨t1, et1, hM⟩ := bS hM
  refine r_callSi (x := t1) C hS cs_Mo_65 (c_Mo_in l base D cI cZ h (l1.toInt64) (33 : Int64) (126 : Int64) et1) (rest := []) rfl hl.1 rfl (Nat.le_of_ble_eq_true rfl) ⟨(Nat.le_of_ble_eq_true rfl), (Nat.le_of_ble_eq_true rfl)⟩ ⟨(Nat.le_of_ble_eq_true rfl), (Nat.le_of_ble_eq_true rfl)⟩ d_Mo_say_8 (fun H locs hS => ?_)
  refine lv_if_ne (tgt := 17) hx hb d_Mo_say_11 (by decide) (fun c11_1 => ?_) (fun c11_1 => ?_)
  · rw [if_neg c11_1] at hM
    refine lv_aload_n hx hb d_Mo_say_17 rfl (lv_at hl 0 rfl) ?_
    obtain ⟨t2, et2, hM⟩ := bS hM
    refine r_getI C hS fl_Mo_79 et2 d_Mo_say_18 ?_
    refine lv_bipush (v := (60 : Int32)) hx hb d_Mo_say_21 (by decide) ?_
    refine lv_icmp_ne (tgt := 29) hx hb d_Mo_say_23 (by decide) (fun c23_2 => ?_) (fun c23_2 => ?_)
    · rw [if_neg c23_2] at hM
      refine lv_aload_n hx hb d_Mo_say_29 rfl (lv_at hl 0 rfl) ?_
      obtain ⟨t3, et3, hM⟩ := bS hM
      refine r_getR C hS fl_Mo_23 et3 d_Mo_say_30 ?_
      refine lv_aload_n hx hb d_Mo_say_33 rfl (lv_at hl 0 rfl) ?_
      obtain ⟨t4, et4, hM⟩ := bS hM
      refine r_getI C hS fl_Mo_79 et4 d_Mo_say_34 ?_
      refine lv_iload_n hx hb d_Mo_say_37 rfl (lv_at hl 1 rfl) ?_
      obtain ⟨h5, eh5, hM⟩ := bS hM
      refine r_iast C hS eh5 d_Mo_say_38 (fun H locs hS => ?_)
      refine lv_aload_n hx hb d_Mo_say_39 rfl (lv_at hl 0 rfl) ?_
      refine lv_dup hx hb d_Mo_say_40 rfl ?_
      obtain ⟨t6, et6, hM⟩ := bS hM
      refine r_getI C hS fl_Mo_79 et6 d_Mo_say_41 ?_
      refine lv_iconst (v := (1 : Int32)) hx hb d_Mo_say_44 (by decide) ?_
      refine lv_iadd hx hb d_Mo_say_45 ?_
      obtain ⟨h7, eh7, hM⟩ := bS hM
      refine r_putI C hS fp_Mo_79 eh7 d_Mo_say_46 (fun H locs hS => ?_)
      refine lv_aload_n hx hb d_Mo_say_49 rfl (lv_at hl 0 rfl) ?_
      obtain ⟨t8, et8, hM⟩ := bS hM
      refine r_getI C hS fl_Mo_79 et8 d_Mo_say_50 ?_
      obtain rfl := Option.some.inj hM
      exact r_iret C hS d_Mo_say_53
    · rw [if_pos c23_2] at hM
      refine lv_bipush (v := (-4 : Int32)) hx hb d_Mo_say_26 (by decide) ?_
      obtain rfl := Option.some.inj hM
      exact r_iret C hS d_Mo_say_28
  · rw [if_pos c11_1] at hM
    refine lv_bipush (v := (-2 : Int32)) hx hb d_Mo_say_14 (by decide) ?_
    obtain rfl := Option.some.inj hM
    exact r_iret C hS d_Mo_say_16
theorem c_Mo_say (l : Launch) (base : Nat) (D : va_G) (cI cZ : ClassId) (h : Hp) (l0 : Nat) (l1 : Int32) {r : (Int32 × Hp)} (hM : f_Mo_say h l0 l1 = some r) : Ct l base D cI cZ y_Mo_say b_Mo_say 2 (some .int) 1 25 0 0 h [.ref (base + l0), .int l1] r.2 (some (.int r.1)) :=
  ct_of (by decide) (Nat.le_of_ble_eq_true rfl) (fun p e s m below meth c ls C hS hl => t_Mo_say C hM _ _ _ hS hl)
theorem d_Mo_wipe_0 : decode b_Mo_wipe 0 = .ok (.aload_n 0, 1) := by decide +kernel
theorem d_Mo_wipe_1 : decode b_Mo_wipe 1 = .ok (.getfield 79, 3) := by decide +kernel
theorem d_Mo_wipe_4 : decode b_Mo_wipe 4 = .ok (.istore_n 1, 1) := by decide +kernel
theorem d_Mo_wipe_5 : decode b_Mo_wipe 5 = .ok (.aload_n 0, 1) := by decide +kernel
theorem d_Mo_wipe_6 : decode b_Mo_wipe 6 = .ok (.iconst 0, 1) := by decide +kernel
theorem d_Mo_wipe_7 : decode b_Mo_wipe 7 = .ok (.putfield 79, 3) := by decide +kernel
theorem d_Mo_wipe_10 : decode b_Mo_wipe 10 = .ok (.iload_n 1, 1) := by decide +kernel
theorem d_Mo_wipe_11 : decode b_Mo_wipe 11 = .ok (.ireturn, 1) := by decide +kernel
def f_Mo_wipe (h : Hp) (l0 : Nat) : Option (Int32 × Hp) :=
  ck h 9 l0 (
    (gI h 9 l0 5).bind fun t1 =>
    (sI h 9 l0 5 (0 : Int32)).bind fun h2 =>
    some (t1, h2)
  )
theorem o_Mo_wipe {h : Hp} {l0 : Nat} {r : (Int32 × Hp)} (hM : f_Mo_wipe h l0 = some r) : isO h 9 l0 = true := by
  unfold f_Mo_wipe at hM
  exact (ck_some hM).1
set_option maxHeartbeats 4000000 in
set_option maxRecDepth 100000 in
theorem t_Mo_wipe {h : Hp} {l0 : Nat} {r : (Int32 × Hp)} (C : Cx base D cI cZ b_Mo_wipe 2 "MovedFoldersModel" "wipe" (some .int) p s m args meth c) (hM : f_Mo_wipe h l0 = some r) (H : Heap) (locs : List Loc) (ls : Array Slot) (hS : RS base D cI cZ s H locs h) (hl : lv_has ls 2 [(0, .ref (base + l0))]) : Wg l base D cI cZ 0 0 0 0 r.2 (some (.int r.1)) p e s m args below meth c H locs 0 0 (F0 m 0 ls []) := by
  have hx := C.1
  have hb := C.2.1
  unfold f_Mo_wipe at hM
  replace hM := (ck_some hM).2
  refine lv_aload_n hx hb d_Mo_wipe_0 rfl (lv_at hl 0 rfl) ?_
  obtain ⟨t1, et1, hM⟩ := bS hM
  refine r_getI C hS fl_Mo_79 et1 d_Mo_wipe_1 ?_
  refine lv_istore_n (lv' := [(1, .int t1), (0, .ref (base + l0))]) hx hb d_Mo_wipe_4 rfl hl (by decide) rfl (fun ls hl => ?_)
  refine lv_aload_n hx hb d_Mo_wipe_5 rfl (lv_at hl 1 rfl) ?_
  refine lv_iconst (v := (0 : Int32)) hx hb d_Mo_wipe_6 (by decide) ?_
  obtain ⟨h2, eh2, hM⟩ := bS hM
  refine r_putI C hS fp_Mo_79 eh2 d_Mo_wipe_7 (fun H locs hS => ?_)
  refine lv_iload_n hx hb d_Mo_wipe_10 rfl (lv_at hl 0 rfl) ?_
  obtain rfl := Option.some.inj hM
  exact r_iret C hS d_Mo_wipe_11
theorem c_Mo_wipe (l : Launch) (base : Nat) (D : va_G) (cI cZ : ClassId) (h : Hp) (l0 : Nat) {r : (Int32 × Hp)} (hM : f_Mo_wipe h l0 = some r) : Ct l base D cI cZ y_Mo_wipe b_Mo_wipe 2 (some .int) 0 0 0 0 h [.ref (base + l0)] r.2 (some (.int r.1)) :=
  ct_of (by decide) (Nat.le_of_ble_eq_true rfl) (fun p e s m below meth c ls C hS hl => t_Mo_wipe C hM _ _ _ hS hl)
theorem d_Mo_worth_0 : decode b_Mo_worth 0 = .ok (.iload_n 0, 1) := by decide +kernel
theorem d_Mo_worth_1 : decode b_Mo_worth 1 = .ok (.ifCond .ne 8, 3) := by decide +kernel
theorem d_Mo_worth_4 : decode b_Mo_worth 4 = .ok (.bipush 100, 2) := by decide +kernel
theorem d_Mo_worth_6 : decode b_Mo_worth 6 = .ok (.goto 14, 3) := by decide +kernel
theorem d_Mo_worth_9 : decode b_Mo_worth 9 = .ok (.iload_n 0, 1) := by decide +kernel
theorem d_Mo_worth_10 : decode b_Mo_worth 10 = .ok (.iconst 1, 1) := by decide +kernel
theorem d_Mo_worth_11 : decode b_Mo_worth 11 = .ok (.if_icmp .ne 8, 3) := by decide +kernel
theorem d_Mo_worth_14 : decode b_Mo_worth 14 = .ok (.bipush 10, 2) := by decide +kernel
theorem d_Mo_worth_16 : decode b_Mo_worth 16 = .ok (.goto 4, 3) := by decide +kernel
theorem d_Mo_worth_19 : decode b_Mo_worth 19 = .ok (.iconst 1, 1) := by decide +kernel
theorem d_Mo_worth_20 : decode b_Mo_worth 20 = .ok (.ireturn, 1) := by decide +kernel
def f_Mo_worth (l0 : Int32) : Option Int32 :=
  some (if l0 = (0 : Int32) then ((100 : Int32)) else (if l0 = (1 : Int32) then ((10 : Int32)) else ((1 : Int32))))
set_option maxHeartbeats 4000000 in
set_option maxRecDepth 100000 in
theorem t_Mo_worth {h : Hp} {l0 : Int32} {r : Int32} (C : Cx base D cI cZ b_Mo_worth 1 "MovedFoldersModel" "worth" (some .int) p s m args meth c) (hM : f_Mo_worth l0 = some r) (H : Heap) (locs : List Loc) (ls : Array Slot) (hS : RS base D cI cZ s H locs h) (hl : lv_has ls 1 [(0, .int l0)]) : Wg l base D cI cZ 0 0 0 0 h (some (.int r)) p e s m args below meth c H locs 0 0 (F0 m 0 ls []) := by
  have hx := C.1
  have hb := C.2.1
  unfold f_Mo_worth at hM
  refine lv_iload_n hx hb d_Mo_worth_0 rfl (lv_at hl 0 rfl) ?_
  have kJ20_1 : ∀ (H : Heap) (locs : List Loc) (ls : Array Slot), RS base D cI cZ s H locs h → lv_has ls 1 [] → Wg l base D cI cZ 0 0 0 0 h (some (.int r)) p e s m args below meth c H locs 0 0 (F0 m 20 ls [.int (if l0 = (0 : Int32) then ((100 : Int32)) else (if l0 = (1 : Int32) then ((10 : Int32)) else ((1 : Int32))))]) := by
    intro H locs ls hS hl
    obtain rfl := Option.some.inj hM
    exact r_iret C hS d_Mo_worth_20
  refine lv_if_ne (tgt := 9) hx hb d_Mo_worth_1 (by decide) (fun c1_2 => ?_) (fun c1_2 => ?_)
  · rw [if_neg c1_2] at kJ20_1
    refine lv_iload_n hx hb d_Mo_worth_9 rfl (lv_at hl 0 rfl) ?_
    refine lv_iconst (v := (1 : Int32)) hx hb d_Mo_worth_10 (by decide) ?_
    refine lv_icmp_ne (tgt := 19) hx hb d_Mo_worth_11 (by decide) (fun c11_3 => ?_) (fun c11_3 => ?_)
    · rw [if_neg c11_3] at kJ20_1
      refine lv_iconst (v := (1 : Int32)) hx hb d_Mo_worth_19 (by decide) ?_
      exact kJ20_1 _ _ _ hS (lv_sub hl [] rfl)
    · rw [if_pos c11_3] at kJ20_1
      refine lv_bipush (v := (10 : Int32)) hx hb d_Mo_worth_14 (by decide) ?_
      refine lv_goto (tgt := 20) hx hb d_Mo_worth_16 (by decide) ?_
      exact kJ20_1 _ _ _ hS (lv_sub hl [] rfl)
  · rw [if_pos c1_2] at kJ20_1
    refine lv_bipush (v := (100 : Int32)) hx hb d_Mo_worth_4 (by decide) ?_
    refine lv_goto (tgt := 20) hx hb d_Mo_worth_6 (by decide) ?_
    exact kJ20_1 _ _ _ hS (lv_sub hl [] rfl)
theorem c_Mo_worth (l : Launch) (base : Nat) (D : va_G) (cI cZ : ClassId) (h : Hp) (l0 : Int32) {r : Int32} (hM : f_Mo_worth l0 = some r) : Ct l base D cI cZ y_Mo_worth b_Mo_worth 1 (some .int) 0 0 0 0 h [.int l0] h (some (.int r)) :=
  ct_of (by decide) (Nat.le_of_ble_eq_true rfl) (fun p e s m below meth c ls C hS hl => t_Mo_worth C hM _ _ _ hS hl)
theorem d_Mo_goOn_0 : decode b_Mo_goOn 0 = .ok (.iload_n 1, 1) := by decide +kernel
theorem d_Mo_goOn_1 : decode b_Mo_goOn 1 = .ok (.ifCond .ne 60, 3) := by decide +kernel
theorem d_Mo_goOn_4 : decode b_Mo_goOn 4 = .ok (.iload_n 2, 1) := by decide +kernel
theorem d_Mo_goOn_5 : decode b_Mo_goOn 5 = .ok (.i2l, 1) := by decide +kernel
theorem d_Mo_goOn_6 : decode b_Mo_goOn 6 = .ok (.ldc2_w 82, 3) := by decide +kernel
theorem d_Mo_goOn_9 : decode b_Mo_goOn 9 = .ok (.ldc2_w 84, 3) := by decide +kernel
theorem d_Mo_goOn_12 : decode b_Mo_goOn 12 = .ok (.invokestatic 65, 3) := by decide +kernel
theorem d_Mo_goOn_15 : decode b_Mo_goOn 15 = .ok (.ifCond .eq 46, 3) := by decide +kernel
theorem d_Mo_goOn_18 : decode b_Mo_goOn 18 = .ok (.aload_n 0, 1) := by decide +kernel
theorem d_Mo_goOn_19 : decode b_Mo_goOn 19 = .ok (.getfield 86, 3) := by decide +kernel
theorem d_Mo_goOn_22 : decode b_Mo_goOn 22 = .ok (.iconst 3, 1) := by decide +kernel
theorem d_Mo_goOn_23 : decode b_Mo_goOn 23 = .ok (.if_icmp .ge 38, 3) := by decide +kernel
theorem d_Mo_goOn_26 : decode b_Mo_goOn 26 = .ok (.aload_n 0, 1) := by decide +kernel
theorem d_Mo_goOn_27 : decode b_Mo_goOn 27 = .ok (.dup, 1) := by decide +kernel
theorem d_Mo_goOn_28 : decode b_Mo_goOn 28 = .ok (.getfield 89, 3) := by decide +kernel
theorem d_Mo_goOn_31 : decode b_Mo_goOn 31 = .ok (.aload_n 0, 1) := by decide +kernel
theorem d_Mo_goOn_32 : decode b_Mo_goOn 32 = .ok (.getfield 86, 3) := by decide +kernel
theorem d_Mo_goOn_35 : decode b_Mo_goOn 35 = .ok (.invokestatic 92, 3) := by decide +kernel
theorem d_Mo_goOn_38 : decode b_Mo_goOn 38 = .ok (.iload_n 2, 1) := by decide +kernel
theorem d_Mo_goOn_39 : decode b_Mo_goOn 39 = .ok (.bipush 65, 2) := by decide +kernel
theorem d_Mo_goOn_41 : decode b_Mo_goOn 41 = .ok (.isub, 1) := by decide +kernel
theorem d_Mo_goOn_42 : decode b_Mo_goOn 42 = .ok (.iconst 1, 1) := by decide +kernel
theorem d_Mo_goOn_43 : decode b_Mo_goOn 43 = .ok (.iadd, 1) := by decide +kernel
theorem d_Mo_goOn_44 : decode b_Mo_goOn 44 = .ok (.imul, 1) := by decide +kernel
theorem d_Mo_goOn_45 : decode b_Mo_goOn 45 = .ok (.iadd, 1) := by decide +kernel
theorem d_Mo_goOn_46 : decode b_Mo_goOn 46 = .ok (.putfield 89, 3) := by decide +kernel
theorem d_Mo_goOn_49 : decode b_Mo_goOn 49 = .ok (.aload_n 0, 1) := by decide +kernel
theorem d_Mo_goOn_50 : decode b_Mo_goOn 50 = .ok (.dup, 1) := by decide +kernel
theorem d_Mo_goOn_51 : decode b_Mo_goOn 51 = .ok (.getfield 86, 3) := by decide +kernel
theorem d_Mo_goOn_54 : decode b_Mo_goOn 54 = .ok (.iconst 1, 1) := by decide +kernel
theorem d_Mo_goOn_55 : decode b_Mo_goOn 55 = .ok (.iadd, 1) := by decide +kernel
theorem d_Mo_goOn_56 : decode b_Mo_goOn 56 = .ok (.putfield 86, 3) := by decide +kernel
theorem d_Mo_goOn_59 : decode b_Mo_goOn 59 = .ok (.iconst 0, 1) := by decide +kernel
theorem d_Mo_goOn_60 : decode b_Mo_goOn 60 = .ok (.ireturn, 1) := by decide +kernel
theorem d_Mo_goOn_61 : decode b_Mo_goOn 61 = .ok (.iload_n 1, 1) := by decide +kernel
theorem d_Mo_goOn_62 : decode b_Mo_goOn 62 = .ok (.ifCond .ne 27, 3) := by decide +kernel
theorem d_Mo_goOn_65 : decode b_Mo_goOn 65 = .ok (.iload_n 2, 1) := by decide +kernel
theorem d_Mo_goOn_66 : decode b_Mo_goOn 66 = .ok (.i2l, 1) := by decide +kernel
theorem d_Mo_goOn_67 : decode b_Mo_goOn 67 = .ok (.ldc2_w 96, 3) := by decide +kernel
theorem d_Mo_goOn_70 : decode b_Mo_goOn 70 = .ok (.ldc2_w 98, 3) := by decide +kernel
theorem d_Mo_goOn_73 : decode b_Mo_goOn 73 = .ok (.invokestatic 65, 3) := by decide +kernel
theorem d_Mo_goOn_76 : decode b_Mo_goOn 76 = .ok (.ifCond .eq 13, 3) := by decide +kernel
theorem d_Mo_goOn_79 : decode b_Mo_goOn 79 = .ok (.aload_n 0, 1) := by decide +kernel
theorem d_Mo_goOn_80 : decode b_Mo_goOn 80 = .ok (.iload_n 2, 1) := by decide +kernel
theorem d_Mo_goOn_81 : decode b_Mo_goOn 81 = .ok (.bipush 97, 2) := by decide +kernel
theorem d_Mo_goOn_83 : decode b_Mo_goOn 83 = .ok (.isub, 1) := by decide +kernel
theorem d_Mo_goOn_84 : decode b_Mo_goOn 84 = .ok (.putfield 100, 3) := by decide +kernel
theorem d_Mo_goOn_87 : decode b_Mo_goOn 87 = .ok (.iconst 1, 1) := by decide +kernel
theorem d_Mo_goOn_88 : decode b_Mo_goOn 88 = .ok (.ireturn, 1) := by decide +kernel
theorem d_Mo_goOn_89 : decode b_Mo_goOn 89 = .ok (.iload_n 1, 1) := by decide +kernel
theorem d_Mo_goOn_90 : decode b_Mo_goOn 90 = .ok (.iconst 1, 1) := by decide +kernel
theorem d_Mo_goOn_91 : decode b_Mo_goOn 91 = .ok (.if_icmp .ne 11, 3) := by decide +kernel
theorem d_Mo_goOn_94 : decode b_Mo_goOn 94 = .ok (.iload_n 2, 1) := by decide +kernel
theorem d_Mo_goOn_95 : decode b_Mo_goOn 95 = .ok (.bipush 61, 2) := by decide +kernel
theorem d_Mo_goOn_97 : decode b_Mo_goOn 97 = .ok (.if_icmp .ne 5, 3) := by decide +kernel
theorem d_Mo_goOn_100 : decode b_Mo_goOn 100 = .ok (.iconst 2, 1) := by decide +kernel
theorem d_Mo_goOn_101 : decode b_Mo_goOn 101 = .ok (.ireturn, 1) := by decide +kernel
theorem d_Mo_goOn_102 : decode b_Mo_goOn 102 = .ok (.iload_n 1, 1) := by decide +kernel
theorem d_Mo_goOn_103 : decode b_Mo_goOn 103 = .ok (.iconst 2, 1) := by decide +kernel
theorem d_Mo_goOn_104 : decode b_Mo_goOn 104 = .ok (.if_icmp .ne 54, 3) := by decide +kernel
theorem d_Mo_goOn_107 : decode b_Mo_goOn 107 = .ok (.iload_n 2, 1) := by decide +kernel
theorem d_Mo_goOn_108 : decode b_Mo_goOn 108 = .ok (.i2l, 1) := by decide +kernel
theorem d_Mo_goOn_109 : decode b_Mo_goOn 109 = .ok (.ldc2_w 103, 3) := by decide +kernel
theorem d_Mo_goOn_112 : decode b_Mo_goOn 112 = .ok (.ldc2_w 105, 3) := by decide +kernel
theorem d_Mo_goOn_115 : decode b_Mo_goOn 115 = .ok (.invokestatic 65, 3) := by decide +kernel
theorem d_Mo_goOn_118 : decode b_Mo_goOn 118 = .ok (.ifCond .eq 40, 3) := by decide +kernel
theorem d_Mo_goOn_121 : decode b_Mo_goOn 121 = .ok (.aload_n 0, 1) := by decide +kernel
theorem d_Mo_goOn_122 : decode b_Mo_goOn 122 = .ok (.getfield 107, 3) := by decide +kernel
theorem d_Mo_goOn_125 : decode b_Mo_goOn 125 = .ok (.bipush 6, 2) := by decide +kernel
theorem d_Mo_goOn_127 : decode b_Mo_goOn 127 = .ok (.if_icmp .ge 31, 3) := by decide +kernel
theorem d_Mo_goOn_130 : decode b_Mo_goOn 130 = .ok (.aload_n 0, 1) := by decide +kernel
theorem d_Mo_goOn_131 : decode b_Mo_goOn 131 = .ok (.bipush 10, 2) := by decide +kernel
theorem d_Mo_goOn_133 : decode b_Mo_goOn 133 = .ok (.aload_n 0, 1) := by decide +kernel
theorem d_Mo_goOn_134 : decode b_Mo_goOn 134 = .ok (.getfield 110, 3) := by decide +kernel
theorem d_Mo_goOn_137 : decode b_Mo_goOn 137 = .ok (.imul, 1) := by decide +kernel
theorem d_Mo_goOn_138 : decode b_Mo_goOn 138 = .ok (.iload_n 2, 1) := by decide +kernel
theorem d_Mo_goOn_139 : decode b_Mo_goOn 139 = .ok (.iadd, 1) := by decide +kernel
theorem d_Mo_goOn_140 : decode b_Mo_goOn 140 = .ok (.bipush 48, 2) := by decide +kernel
theorem d_Mo_goOn_142 : decode b_Mo_goOn 142 = .ok (.isub, 1) := by decide +kernel
theorem d_Mo_goOn_143 : decode b_Mo_goOn 143 = .ok (.putfield 110, 3) := by decide +kernel
theorem d_Mo_goOn_146 : decode b_Mo_goOn 146 = .ok (.aload_n 0, 1) := by decide +kernel
theorem d_Mo_goOn_147 : decode b_Mo_goOn 147 = .ok (.dup, 1) := by decide +kernel
theorem d_Mo_goOn_148 : decode b_Mo_goOn 148 = .ok (.getfield 107, 3) := by decide +kernel
theorem d_Mo_goOn_151 : decode b_Mo_goOn 151 = .ok (.iconst 1, 1) := by decide +kernel
theorem d_Mo_goOn_152 : decode b_Mo_goOn 152 = .ok (.iadd, 1) := by decide +kernel
theorem d_Mo_goOn_153 : decode b_Mo_goOn 153 = .ok (.putfield 107, 3) := by decide +kernel
theorem d_Mo_goOn_156 : decode b_Mo_goOn 156 = .ok (.iconst 2, 1) := by decide +kernel
theorem d_Mo_goOn_157 : decode b_Mo_goOn 157 = .ok (.ireturn, 1) := by decide +kernel
theorem d_Mo_goOn_158 : decode b_Mo_goOn 158 = .ok (.bipush (-6), 2) := by decide +kernel
theorem d_Mo_goOn_160 : decode b_Mo_goOn 160 = .ok (.ireturn, 1) := by decide +kernel
def f_Mo_goOn_102 (h : Hp) (l0 : Nat) (l1 : Int32) (l2 : Int32) : Option (Int32 × Hp) :=
  if l1 = (2 : Int32) then (
    (f_Mo_in (l2.toInt64) (48 : Int64) (57 : Int64)).bind fun t1 =>
    if t1 = (0 : Int32) then (
      some ((-6 : Int32), h)
    ) else (
      (gI h 9 l0 10).bind fun t2 =>
      if (6 : Int32) ≤ t2 then (
        some ((-6 : Int32), h)
      ) else (
        (gI h 9 l0 9).bind fun t3 =>
        (sI h 9 l0 9 ((((10 : Int32) * t3) + l2) - (48 : Int32))).bind fun h4 =>
        (gI h4 9 l0 10).bind fun t5 =>
        (sI h4 9 l0 10 (t5 + (1 : Int32))).bind fun h6 =>
        some ((2 : Int32), h6)
      )
    )
  ) else (
    some ((-6 : Int32), h)
  )
set_option maxHeartbeats 4000000 in
set_option maxRecDepth 100000 in
theorem t_Mo_goOn_102 {h : Hp} {l0 : Nat} {l1 : Int32} {l2 : Int32} {r : (Int32 × Hp)} (C : Cx base D cI cZ b_Mo_goOn 3 "MovedFoldersModel" "goOn" (some .int) p s m args meth c)  (hM : f_Mo_goOn_102 h l0 l1 l2 = some r) (H : Heap) (locs : List Loc) (ls : Array Slot) (hS : RS base D cI cZ s H locs h) (hl : lv_has ls 3 [(0, .ref (base + l0)), (1, .int l1), (2, .int l2)]) : Wg l base D cI cZ 1 25 0 0 r.2 (some (.int r.1)) p e s m args below meth c H locs 0 0 (F0 m 102 ls []) := by
  have hx := C.1
  have hb := C.2.1
  unfold f_Mo_goOn_102 at hM
  refine lv_iload_n hx hb d_Mo_goOn_102 rfl (lv_at hl 1 rfl) ?_
  refine lv_iconst (v := (2 : Int32)) hx hb d_Mo_goOn_103 (by decide) ?_
  refine lv_icmp_ne (tgt := 158) hx hb d_Mo_goOn_104 (by decide) (fun c104_4 => ?_) (fun c104_4 => ?_)
  · rw [if_neg c104_4] at hM
    refine lv_bipush (v := (-6 : Int32)) hx hb d_Mo_goOn_158 (by decide) ?_
    obtain rfl := Option.some.inj hM
    exact r_iret C hS d_Mo_goOn_160
  · rw [if_pos c104_4] at hM
    refine lv_iload_n hx hb d_Mo_goOn_107 rfl (lv_at hl 2 rfl) ?_
    refine lv_i2l (v := (l2.toInt64)) hx hb d_Mo_goOn_108 rfl ?_
    refine lv_ldc2 (v := (48 : Int64)) hx hb C.2.2.2.1 (C.2.2.2.2.1 _ kl_Mo_103) d_Mo_goOn_109 ?_
    refine lv_ldc2 (v := (57 : Int64)) hx hb C.2.2.2.1 (C.2.2.2.2.1 _ kl_Mo_105) d_Mo_goOn_112 ?_
    obtain ⟨t1, et1, hM⟩ := bS hM
    refine r_callSi (x := t1) C hS cs_Mo_65 (c_Mo_in l base D cI cZ h (l2.toInt64) (48 : Int64) (57 : Int64) et1) (rest := []) rfl hl.1 rfl (Nat.le_of_ble_eq_true rfl) ⟨(Nat.le_of_ble_eq_true rfl), (Nat.le_of_ble_eq_true rfl)⟩ ⟨(Nat.le_of_ble_eq_true rfl), (Nat.le_of_ble_eq_true rfl)⟩ d_Mo_goOn_115 (fun H locs hS => ?_)
    refine lv_if_eq (tgt := 158) hx hb d_Mo_goOn_118 (by decide) (fun c118_5 => ?_) (fun c118_5 => ?_)
    · rw [if_pos c118_5] at hM
      refine lv_bipush (v := (-6 : Int32)) hx hb d_Mo_goOn_158 (by decide) ?_
      obtain rfl := Option.some.inj hM
      exact r_iret C hS d_Mo_goOn_160
    · rw [if_neg c118_5] at hM
      refine lv_aload_n hx hb d_Mo_goOn_121 rfl (lv_at hl 0 rfl) ?_
      obtain ⟨t2, et2, hM⟩ := bS hM
      refine r_getI C hS fl_Mo_107 et2 d_Mo_goOn_122 ?_
      refine lv_bipush (v := (6 : Int32)) hx hb d_Mo_goOn_125 (by decide) ?_
      refine lv_icmp_ge (tgt := 158) hx hb d_Mo_goOn_127 (by decide) (fun c127_6 => ?_) (fun c127_6 => ?_)
      · rw [if_pos c127_6] at hM
        refine lv_bipush (v := (-6 : Int32)) hx hb d_Mo_goOn_158 (by decide) ?_
        obtain rfl := Option.some.inj hM
        exact r_iret C hS d_Mo_goOn_160
      · rw [if_neg c127_6] at hM
        refine lv_aload_n hx hb d_Mo_goOn_130 rfl (lv_at hl 0 rfl) ?_
        refine lv_bipush (v := (10 : Int32)) hx hb d_Mo_goOn_131 (by decide) ?_
        refine lv_aload_n hx hb d_Mo_goOn_133 rfl (lv_at hl 0 rfl) ?_
        obtain ⟨t3, et3, hM⟩ := bS hM
        refine r_getI C hS fl_Mo_110 et3 d_Mo_goOn_134 ?_
        refine lv_imul hx hb d_Mo_goOn_137 ?_
        refine lv_iload_n hx hb d_Mo_goOn_138 rfl (lv_at hl 2 rfl) ?_
        refine lv_iadd hx hb d_Mo_goOn_139 ?_
        refine lv_bipush (v := (48 : Int32)) hx hb d_Mo_goOn_140 (by decide) ?_
        refine lv_isub hx hb d_Mo_goOn_142 ?_
        obtain ⟨h4, eh4, hM⟩ := bS hM
        refine r_putI C hS fp_Mo_110 eh4 d_Mo_goOn_143 (fun H locs hS => ?_)
        refine lv_aload_n hx hb d_Mo_goOn_146 rfl (lv_at hl 0 rfl) ?_
        refine lv_dup hx hb d_Mo_goOn_147 rfl ?_
        obtain ⟨t5, et5, hM⟩ := bS hM
        refine r_getI C hS fl_Mo_107 et5 d_Mo_goOn_148 ?_
        refine lv_iconst (v := (1 : Int32)) hx hb d_Mo_goOn_151 (by decide) ?_
        refine lv_iadd hx hb d_Mo_goOn_152 ?_
        obtain ⟨h6, eh6, hM⟩ := bS hM
        refine r_putI C hS fp_Mo_107 eh6 d_Mo_goOn_153 (fun H locs hS => ?_)
        refine lv_iconst (v := (2 : Int32)) hx hb d_Mo_goOn_156 (by decide) ?_
        obtain rfl := Option.some.inj hM
        exact r_iret C hS d_Mo_goOn_157
def f_Mo_goOn_89 (h : Hp) (l0 : Nat) (l1 : Int32) (l2 : Int32) : Option (Int32 × Hp) :=
  if l1 = (1 : Int32) then (
    if l2 = (61 : Int32) then (
      some ((2 : Int32), h)
    ) else (
      f_Mo_goOn_102 h l0 l1 l2
    )
  ) else (
    f_Mo_goOn_102 h l0 l1 l2
  )
set_option maxHeartbeats 4000000 in
set_option maxRecDepth 100000 in
theorem t_Mo_goOn_89 {h : Hp} {l0 : Nat} {l1 : Int32} {l2 : Int32} {r : (Int32 × Hp)} (C : Cx base D cI cZ b_Mo_goOn 3 "MovedFoldersModel" "goOn" (some .int) p s m args meth c)  (hM : f_Mo_goOn_89 h l0 l1 l2 = some r) (H : Heap) (locs : List Loc) (ls : Array Slot) (hS : RS base D cI cZ s H locs h) (hl : lv_has ls 3 [(0, .ref (base + l0)), (1, .int l1), (2, .int l2)]) : Wg l base D cI cZ 1 25 0 0 r.2 (some (.int r.1)) p e s m args below meth c H locs 0 0 (F0 m 89 ls []) := by
  have hx := C.1
  have hb := C.2.1
  unfold f_Mo_goOn_89 at hM
  refine lv_iload_n hx hb d_Mo_goOn_89 rfl (lv_at hl 1 rfl) ?_
  refine lv_iconst (v := (1 : Int32)) hx hb d_Mo_goOn_90 (by decide) ?_
  refine lv_icmp_ne (tgt := 102) hx hb d_Mo_goOn_91 (by decide) (fun c91_3 => ?_) (fun c91_3 => ?_)
  · rw [if_neg c91_3] at hM
    exact t_Mo_goOn_102  C  hM _ _ _ hS (lv_sub hl [0, 1, 2] rfl)
  · rw [if_pos c91_3] at hM
    refine lv_iload_n hx hb d_Mo_goOn_94 rfl (lv_at hl 2 rfl) ?_
    refine lv_bipush (v := (61 : Int32)) hx hb d_Mo_goOn_95 (by decide) ?_
    refine lv_icmp_ne (tgt := 102) hx hb d_Mo_goOn_97 (by decide) (fun c97_7 => ?_) (fun c97_7 => ?_)
    · rw [if_neg c97_7] at hM
      exact t_Mo_goOn_102  C  hM _ _ _ hS (lv_sub hl [0, 1, 2] rfl)
    · rw [if_pos c97_7] at hM
      refine lv_iconst (v := (2 : Int32)) hx hb d_Mo_goOn_100 (by decide) ?_
      obtain rfl := Option.some.inj hM
      exact r_iret C hS d_Mo_goOn_101
def f_Mo_goOn_61 (h : Hp) (l0 : Nat) (l1 : Int32) (l2 : Int32) : Option (Int32 × Hp) :=
  if l1 = (0 : Int32) then (
    (f_Mo_in (l2.toInt64) (97 : Int64) (104 : Int64)).bind fun t7 =>
    if t7 = (0 : Int32) then (
      f_Mo_goOn_89 h l0 l1 l2
    ) else (
      (sI h 9 l0 8 (l2 - (97 : Int32))).bind fun h8 =>
      some ((1 : Int32), h8)
    )
  ) else (
    f_Mo_goOn_89 h l0 l1 l2
  )
set_option maxHeartbeats 4000000 in
set_option maxRecDepth 100000 in
theorem t_Mo_goOn_61 {h : Hp} {l0 : Nat} {l1 : Int32} {l2 : Int32} {r : (Int32 × Hp)} (C : Cx base D cI cZ b_Mo_goOn 3 "MovedFoldersModel" "goOn" (some .int) p s m args meth c)  (hM : f_Mo_goOn_61 h l0 l1 l2 = some r) (H : Heap) (locs : List Loc) (ls : Array Slot) (hS : RS base D cI cZ s H locs h) (hl : lv_has ls 3 [(0, .ref (base + l0)), (1, .int l1), (2, .int l2)]) : Wg l base D cI cZ 1 25 0 0 r.2 (some (.int r.1)) p e s m args below meth c H locs 0 0 (F0 m 61 ls []) := by
  have hx := C.1
  have hb := C.2.1
  unfold f_Mo_goOn_61 at hM
  refine lv_iload_n hx hb d_Mo_goOn_61 rfl (lv_at hl 1 rfl) ?_
  refine lv_if_ne (tgt := 89) hx hb d_Mo_goOn_62 (by decide) (fun c62_2 => ?_) (fun c62_2 => ?_)
  · rw [if_neg c62_2] at hM
    exact t_Mo_goOn_89  C  hM _ _ _ hS (lv_sub hl [0, 1, 2] rfl)
  · rw [if_pos c62_2] at hM
    refine lv_iload_n hx hb d_Mo_goOn_65 rfl (lv_at hl 2 rfl) ?_
    refine lv_i2l (v := (l2.toInt64)) hx hb d_Mo_goOn_66 rfl ?_
    refine lv_ldc2 (v := (97 : Int64)) hx hb C.2.2.2.1 (C.2.2.2.2.1 _ kl_Mo_96) d_Mo_goOn_67 ?_
    refine lv_ldc2 (v := (104 : Int64)) hx hb C.2.2.2.1 (C.2.2.2.2.1 _ kl_Mo_98) d_Mo_goOn_70 ?_
    obtain ⟨t7, et7, hM⟩ := bS hM
    refine r_callSi (x := t7) C hS cs_Mo_65 (c_Mo_in l base D cI cZ h (l2.toInt64) (97 : Int64) (104 : Int64) et7) (rest := []) rfl hl.1 rfl (Nat.le_of_ble_eq_true rfl) ⟨(Nat.le_of_ble_eq_true rfl), (Nat.le_of_ble_eq_true rfl)⟩ ⟨(Nat.le_of_ble_eq_true rfl), (Nat.le_of_ble_eq_true rfl)⟩ d_Mo_goOn_73 (fun H locs hS => ?_)
    refine lv_if_eq (tgt := 89) hx hb d_Mo_goOn_76 (by decide) (fun c76_8 => ?_) (fun c76_8 => ?_)
    · rw [if_pos c76_8] at hM
      exact t_Mo_goOn_89  C  hM _ _ _ hS (lv_sub hl [0, 1, 2] rfl)
    · rw [if_neg c76_8] at hM
      refine lv_aload_n hx hb d_Mo_goOn_79 rfl (lv_at hl 0 rfl) ?_
      refine lv_iload_n hx hb d_Mo_goOn_80 rfl (lv_at hl 2 rfl) ?_
      refine lv_bipush (v := (97 : Int32)) hx hb d_Mo_goOn_81 (by decide) ?_
      refine lv_isub hx hb d_Mo_goOn_83 ?_
      obtain ⟨h8, eh8, hM⟩ := bS hM
      refine r_putI C hS fp_Mo_100 eh8 d_Mo_goOn_84 (fun H locs hS => ?_)
      refine lv_iconst (v := (1 : Int32)) hx hb d_Mo_goOn_87 (by decide) ?_
      obtain rfl := Option.some.inj hM
      exact r_iret C hS d_Mo_goOn_88
def f_Mo_goOn (h : Hp) (l0 : Nat) (l1 : Int32) (l2 : Int32) : Option (Int32 × Hp) :=
  ck h 9 l0 (
    if l1 = (0 : Int32) then (
      (f_Mo_in (l2.toInt64) (65 : Int64) (68 : Int64)).bind fun t9 =>
      if t9 = (0 : Int32) then (
        f_Mo_goOn_61 h l0 l1 l2
      ) else (
        (gI h 9 l0 7).bind fun t10 =>
        if (3 : Int32) ≤ t10 then (
          f_Mo_goOn_61 h l0 l1 l2
        ) else (
          (gI h 9 l0 6).bind fun t11 =>
          (gI h 9 l0 7).bind fun t12 =>
          (f_Mo_worth t12).bind fun t13 =>
          (sI h 9 l0 6 (t11 + (t13 * ((l2 - (65 : Int32)) + (1 : Int32))))).bind fun h14 =>
          (gI h14 9 l0 7).bind fun t15 =>
          (sI h14 9 l0 7 (t15 + (1 : Int32))).bind fun h16 =>
          some ((0 : Int32), h16)
        )
      )
    ) else (
      f_Mo_goOn_61 h l0 l1 l2
    )
  )
theorem o_Mo_goOn {h : Hp} {l0 : Nat} {l1 : Int32} {l2 : Int32} {r : (Int32 × Hp)} (hM : f_Mo_goOn h l0 l1 l2 = some r) : isO h 9 l0 = true := by
  unfold f_Mo_goOn at hM
  exact (ck_some hM).1
set_option maxHeartbeats 4000000 in
set_option maxRecDepth 100000 in
theorem t_Mo_goOn {h : Hp} {l0 : Nat} {l1 : Int32} {l2 : Int32} {r : (Int32 × Hp)} (C : Cx base D cI cZ b_Mo_goOn 3 "MovedFoldersModel" "goOn" (some .int) p s m args meth c) (hM : f_Mo_goOn h l0 l1 l2 = some r) (H : Heap) (locs : List Loc) (ls : Array Slot) (hS : RS base D cI cZ s H locs h) (hl : lv_has ls 3 [(0, .ref (base + l0)), (1, .int l1), (2, .int l2)]) : Wg l base D cI cZ 1 25 0 0 r.2 (some (.int r.1)) p e s m args below meth c H locs 0 0 (F0 m 0 ls []) := by
  have hx := C.1
  have hb := C.2.1
  unfold f_Mo_goOn at hM
  replace hM := (ck_some hM).2
  refine lv_iload_n hx hb d_Mo_goOn_0 rfl (lv_at hl 1 rfl) ?_
  refine lv_if_ne (tgt := 61) hx hb d_Mo_goOn_1 (by decide) (fun c1_1 => ?_) (fun c1_1 => ?_)
  · rw [if_neg c1_1] at hM
    exact t_Mo_goOn_61  C  hM _ _ _ hS (lv_sub hl [0, 1, 2] rfl)
  · rw [if_pos c1_1] at hM
    refine lv_iload_n hx hb d_Mo_goOn_4 rfl (lv_at hl 2 rfl) ?_
    refine lv_i2l (v := (l2.toInt64)) hx hb d_Mo_goOn_5 rfl ?_
    refine lv_ldc2 (v := (65 : Int64)) hx hb C.2.2.2.1 (C.2.2.2.2.1 _ kl_Mo_82) d_Mo_goOn_6 ?_
    refine lv_ldc2 (v := (68 : Int64)) hx hb C.2.2.2.1 (C.2.2.2.2.1 _ kl_Mo_84) d_Mo_goOn_9 ?_
    obtain ⟨t9, et9, hM⟩ := bS hM
    refine r_callSi (x := t9) C hS cs_Mo_65 (c_Mo_in l base D cI cZ h (l2.toInt64) (65 : Int64) (68 : Int64) et9) (rest := []) rfl hl.1 rfl (Nat.le_of_ble_eq_true rfl) ⟨(Nat.le_of_ble_eq_true rfl), (Nat.le_of_ble_eq_true rfl)⟩ ⟨(Nat.le_of_ble_eq_true rfl), (Nat.le_of_ble_eq_true rfl)⟩ d_Mo_goOn_12 (fun H locs hS => ?_)
    refine lv_if_eq (tgt := 61) hx hb d_Mo_goOn_15 (by decide) (fun c15_9 => ?_) (fun c15_9 => ?_)
    · rw [if_pos c15_9] at hM
      exact t_Mo_goOn_61  C  hM _ _ _ hS (lv_sub hl [0, 1, 2] rfl)
    · rw [if_neg c15_9] at hM
      refine lv_aload_n hx hb d_Mo_goOn_18 rfl (lv_at hl 0 rfl) ?_
      obtain ⟨t10, et10, hM⟩ := bS hM
      refine r_getI C hS fl_Mo_86 et10 d_Mo_goOn_19 ?_
      refine lv_iconst (v := (3 : Int32)) hx hb d_Mo_goOn_22 (by decide) ?_
      refine lv_icmp_ge (tgt := 61) hx hb d_Mo_goOn_23 (by decide) (fun c23_10 => ?_) (fun c23_10 => ?_)
      · rw [if_pos c23_10] at hM
        exact t_Mo_goOn_61  C  hM _ _ _ hS (lv_sub hl [0, 1, 2] rfl)
      · rw [if_neg c23_10] at hM
        refine lv_aload_n hx hb d_Mo_goOn_26 rfl (lv_at hl 0 rfl) ?_
        refine lv_dup hx hb d_Mo_goOn_27 rfl ?_
        obtain ⟨t11, et11, hM⟩ := bS hM
        refine r_getI C hS fl_Mo_89 et11 d_Mo_goOn_28 ?_
        refine lv_aload_n hx hb d_Mo_goOn_31 rfl (lv_at hl 0 rfl) ?_
        obtain ⟨t12, et12, hM⟩ := bS hM
        refine r_getI C hS fl_Mo_86 et12 d_Mo_goOn_32 ?_
        obtain ⟨t13, et13, hM⟩ := bS hM
        refine r_callSi (x := t13) C hS cs_Mo_92 (c_Mo_worth l base D cI cZ h t12 et13) (rest := [.int t11, .ref (base + l0)]) rfl hl.1 rfl (Nat.le_of_ble_eq_true rfl) ⟨(Nat.le_of_ble_eq_true rfl), (Nat.le_of_ble_eq_true rfl)⟩ ⟨(Nat.le_of_ble_eq_true rfl), (Nat.le_of_ble_eq_true rfl)⟩ d_Mo_goOn_35 (fun H locs hS => ?_)
        refine lv_iload_n hx hb d_Mo_goOn_38 rfl (lv_at hl 2 rfl) ?_
        refine lv_bipush (v := (65 : Int32)) hx hb d_Mo_goOn_39 (by decide) ?_
        refine lv_isub hx hb d_Mo_goOn_41 ?_
        refine lv_iconst (v := (1 : Int32)) hx hb d_Mo_goOn_42 (by decide) ?_
        refine lv_iadd hx hb d_Mo_goOn_43 ?_
        refine lv_imul hx hb d_Mo_goOn_44 ?_
        refine lv_iadd hx hb d_Mo_goOn_45 ?_
        obtain ⟨h14, eh14, hM⟩ := bS hM
        refine r_putI C hS fp_Mo_89 eh14 d_Mo_goOn_46 (fun H locs hS => ?_)
        refine lv_aload_n hx hb d_Mo_goOn_49 rfl (lv_at hl 0 rfl) ?_
        refine lv_dup hx hb d_Mo_goOn_50 rfl ?_
        obtain ⟨t15, et15, hM⟩ := bS hM
        refine r_getI C hS fl_Mo_86 et15 d_Mo_goOn_51 ?_
        refine lv_iconst (v := (1 : Int32)) hx hb d_Mo_goOn_54 (by decide) ?_
        refine lv_iadd hx hb d_Mo_goOn_55 ?_
        obtain ⟨h16, eh16, hM⟩ := bS hM
        refine r_putI C hS fp_Mo_86 eh16 d_Mo_goOn_56 (fun H locs hS => ?_)
        refine lv_iconst (v := (0 : Int32)) hx hb d_Mo_goOn_59 (by decide) ?_
        obtain rfl := Option.some.inj hM
        exact r_iret C hS d_Mo_goOn_60
theorem c_Mo_goOn (l : Launch) (base : Nat) (D : va_G) (cI cZ : ClassId) (h : Hp) (l0 : Nat) (l1 : Int32) (l2 : Int32) {r : (Int32 × Hp)} (hM : f_Mo_goOn h l0 l1 l2 = some r) : Ct l base D cI cZ y_Mo_goOn b_Mo_goOn 3 (some .int) 1 25 0 0 h [.ref (base + l0), .int l1, .int l2] r.2 (some (.int r.1)) :=
  ct_of (by decide) (Nat.le_of_ble_eq_true rfl) (fun p e s m below meth c ls C hS hl => t_Mo_goOn C hM _ _ _ hS hl)
theorem d_Mo_fault_0 : decode b_Mo_fault 0 = .ok (.aload_n 0, 1) := by decide +kernel
theorem d_Mo_fault_1 : decode b_Mo_fault 1 = .ok (.iconst 0, 1) := by decide +kernel
theorem d_Mo_fault_2 : decode b_Mo_fault 2 = .ok (.putfield 89, 3) := by decide +kernel
theorem d_Mo_fault_5 : decode b_Mo_fault 5 = .ok (.aload_n 0, 1) := by decide +kernel
theorem d_Mo_fault_6 : decode b_Mo_fault 6 = .ok (.iconst 0, 1) := by decide +kernel
theorem d_Mo_fault_7 : decode b_Mo_fault 7 = .ok (.putfield 86, 3) := by decide +kernel
theorem d_Mo_fault_10 : decode b_Mo_fault 10 = .ok (.aload_n 0, 1) := by decide +kernel
theorem d_Mo_fault_11 : decode b_Mo_fault 11 = .ok (.iconst 0, 1) := by decide +kernel
theorem d_Mo_fault_12 : decode b_Mo_fault 12 = .ok (.putfield 100, 3) := by decide +kernel
theorem d_Mo_fault_15 : decode b_Mo_fault 15 = .ok (.aload_n 0, 1) := by decide +kernel
theorem d_Mo_fault_16 : decode b_Mo_fault 16 = .ok (.iconst 1, 1) := by decide +kernel
theorem d_Mo_fault_17 : decode b_Mo_fault 17 = .ok (.putfield 110, 3) := by decide +kernel
theorem d_Mo_fault_20 : decode b_Mo_fault 20 = .ok (.aload_n 0, 1) := by decide +kernel
theorem d_Mo_fault_21 : decode b_Mo_fault 21 = .ok (.iconst 0, 1) := by decide +kernel
theorem d_Mo_fault_22 : decode b_Mo_fault 22 = .ok (.putfield 107, 3) := by decide +kernel
theorem d_Mo_fault_25 : decode b_Mo_fault 25 = .ok (.iconst 0, 1) := by decide +kernel
theorem d_Mo_fault_26 : decode b_Mo_fault 26 = .ok (.istore_n 1, 1) := by decide +kernel
theorem d_Mo_fault_27 : decode b_Mo_fault 27 = .ok (.iconst 0, 1) := by decide +kernel
theorem d_Mo_fault_28 : decode b_Mo_fault 28 = .ok (.istore_n 2, 1) := by decide +kernel
theorem d_Mo_fault_29 : decode b_Mo_fault 29 = .ok (.iload_n 2, 1) := by decide +kernel
theorem d_Mo_fault_30 : decode b_Mo_fault 30 = .ok (.aload_n 0, 1) := by decide +kernel
theorem d_Mo_fault_31 : decode b_Mo_fault 31 = .ok (.getfield 79, 3) := by decide +kernel
theorem d_Mo_fault_34 : decode b_Mo_fault 34 = .ok (.if_icmp .ge 27, 3) := by decide +kernel
theorem d_Mo_fault_37 : decode b_Mo_fault 37 = .ok (.aload_n 0, 1) := by decide +kernel
theorem d_Mo_fault_38 : decode b_Mo_fault 38 = .ok (.iload_n 1, 1) := by decide +kernel
theorem d_Mo_fault_39 : decode b_Mo_fault 39 = .ok (.aload_n 0, 1) := by decide +kernel
theorem d_Mo_fault_40 : decode b_Mo_fault 40 = .ok (.getfield 23, 3) := by decide +kernel
theorem d_Mo_fault_43 : decode b_Mo_fault 43 = .ok (.iload_n 2, 1) := by decide +kernel
theorem d_Mo_fault_44 : decode b_Mo_fault 44 = .ok (.iaload, 1) := by decide +kernel
theorem d_Mo_fault_45 : decode b_Mo_fault 45 = .ok (.invokevirtual 113, 3) := by decide +kernel
theorem d_Mo_fault_48 : decode b_Mo_fault 48 = .ok (.istore_n 1, 1) := by decide +kernel
theorem d_Mo_fault_49 : decode b_Mo_fault 49 = .ok (.iload_n 1, 1) := by decide +kernel
theorem d_Mo_fault_50 : decode b_Mo_fault 50 = .ok (.ifCond .ge 5, 3) := by decide +kernel
theorem d_Mo_fault_53 : decode b_Mo_fault 53 = .ok (.iload_n 2, 1) := by decide +kernel
theorem d_Mo_fault_54 : decode b_Mo_fault 54 = .ok (.ireturn, 1) := by decide +kernel
theorem d_Mo_fault_55 : decode b_Mo_fault 55 = .ok (.iinc 2 1, 3) := by decide +kernel
theorem d_Mo_fault_58 : decode b_Mo_fault 58 = .ok (.goto (-29), 3) := by decide +kernel
theorem d_Mo_fault_61 : decode b_Mo_fault 61 = .ok (.iload_n 1, 1) := by decide +kernel
theorem d_Mo_fault_62 : decode b_Mo_fault 62 = .ok (.iconst 2, 1) := by decide +kernel
theorem d_Mo_fault_63 : decode b_Mo_fault 63 = .ok (.if_icmp .ne 8, 3) := by decide +kernel
theorem d_Mo_fault_66 : decode b_Mo_fault 66 = .ok (.bipush (-6), 2) := by decide +kernel
theorem d_Mo_fault_68 : decode b_Mo_fault 68 = .ok (.goto 7, 3) := by decide +kernel
theorem d_Mo_fault_71 : decode b_Mo_fault 71 = .ok (.aload_n 0, 1) := by decide +kernel
theorem d_Mo_fault_72 : decode b_Mo_fault 72 = .ok (.getfield 79, 3) := by decide +kernel
theorem d_Mo_fault_75 : decode b_Mo_fault 75 = .ok (.ireturn, 1) := by decide +kernel
def f_Mo_fault_29 (l0 : Nat) : Nat → Int32 → Int32 → Hp → Option (Int32 × Hp)
  | 0, _, _, _ => none
  | n + 1, l1, l2, h =>
    (gI h 9 l0 5).bind fun t6 =>
    if t6 ≤ l2 then (
      (
        if l1 = (2 : Int32) then (
          some (-6 : Int32)
        ) else (
          (gI h 9 l0 5).bind fun t8 =>
          some t8
        )
      ).bind fun t7 =>
      some (t7, h)
    ) else (
      (gR h 9 l0 4).bind fun t9 =>
      (gA h false t9 l2).bind fun t10 =>
      (f_Mo_goOn h l0 l1 t10).bind fun q11 =>
      if (0 : Int32) ≤ q11.1 then (
        f_Mo_fault_29 l0 n q11.1 (l2 + (1 : Int32)) q11.2
      ) else (
        some (l2, q11.2)
      )
    )
set_option maxHeartbeats 4000000 in
set_option maxRecDepth 100000 in
theorem t_Mo_fault_29 {l0 : Nat} {r : (Int32 × Hp)} (C : Cx base D cI cZ b_Mo_fault 3 "MovedFoldersModel" "fault" (some .int) p s m args meth c)  : ∀ (n : Nat) (l1 : Int32) (l2 : Int32) (h : Hp), f_Mo_fault_29 l0 n l1 l2 h = some r → ∀ (H : Heap) (locs : List Loc) (ls : Array Slot), RS base D cI cZ s H locs h → lv_has ls 3 [(0, .ref (base + l0)), (1, .int l1), (2, .int l2)] → Wg l base D cI cZ 2 47 0 0 r.2 (some (.int r.1)) p e s m args below meth c H locs 0 0 (F0 m 29 ls []) := by
  have hx := C.1
  have hb := C.2.1
  intro n
  induction n with
  | zero =>
    intro l1 l2 h hM
    rw [f_Mo_fault_29] at hM
    cases hM
  | succ n ih =>
    intro l1 l2 h hM H locs ls hS hl
    rw [f_Mo_fault_29] at hM
    refine lv_iload_n hx hb d_Mo_fault_29 rfl (lv_at hl 2 rfl) ?_
    refine lv_aload_n hx hb d_Mo_fault_30 rfl (lv_at hl 0 rfl) ?_
    obtain ⟨t6, et6, hM⟩ := bS hM
    refine r_getI C hS fl_Mo_79 et6 d_Mo_fault_31 ?_
    refine lv_icmp_ge (tgt := 61) hx hb d_Mo_fault_34 (by decide) (fun c34_1 => ?_) (fun c34_1 => ?_)
    · rw [if_pos c34_1] at hM
      refine lv_iload_n hx hb d_Mo_fault_61 rfl (lv_at hl 1 rfl) ?_
      refine lv_iconst (v := (2 : Int32)) hx hb d_Mo_fault_62 (by decide) ?_
      obtain ⟨t7, et7, hM⟩ := bS hM
      have kJ75_2 : ∀ (H : Heap) (locs : List Loc) (ls : Array Slot), RS base D cI cZ s H locs h → lv_has ls 3 [] → Wg l base D cI cZ 2 47 0 0 r.2 (some (.int r.1)) p e s m args below meth c H locs 0 0 (F0 m 75 ls [.int t7]) := by
        intro H locs ls hS hl
        obtain rfl := Option.some.inj hM
        exact r_iret C hS d_Mo_fault_75
      refine lv_icmp_ne (tgt := 71) hx hb d_Mo_fault_63 (by decide) (fun c63_3 => ?_) (fun c63_3 => ?_)
      · rw [if_neg c63_3] at et7
        refine lv_aload_n hx hb d_Mo_fault_71 rfl (lv_at hl 0 rfl) ?_
        obtain ⟨t8, et8, et7⟩ := bS et7
        refine r_getI C hS fl_Mo_79 et8 d_Mo_fault_72 ?_
        obtain rfl := Option.some.inj et7
        exact kJ75_2 _ _ _ hS (lv_sub hl [] rfl)
      · rw [if_pos c63_3] at et7
        refine lv_bipush (v := (-6 : Int32)) hx hb d_Mo_fault_66 (by decide) ?_
        refine lv_goto (tgt := 75) hx hb d_Mo_fault_68 (by decide) ?_
        obtain rfl := Option.some.inj et7
        exact kJ75_2 _ _ _ hS (lv_sub hl [] rfl)
    · rw [if_neg c34_1] at hM
      refine lv_aload_n hx hb d_Mo_fault_37 rfl (lv_at hl 0 rfl) ?_
      refine lv_iload_n hx hb d_Mo_fault_38 rfl (lv_at hl 1 rfl) ?_
      refine lv_aload_n hx hb d_Mo_fault_39 rfl (lv_at hl 0 rfl) ?_
      obtain ⟨t9, et9, hM⟩ := bS hM
      refine r_getR C hS fl_Mo_23 et9 d_Mo_fault_40 ?_
      refine lv_iload_n hx hb d_Mo_fault_43 rfl (lv_at hl 2 rfl) ?_
      obtain ⟨t10, et10, hM⟩ := bS hM
      refine r_iald C hS et10 d_Mo_fault_44 ?_
      obtain ⟨q11, eq11, hM⟩ := bS hM
      refine r_callVi (x := q11.1) C hS cv_Mo_113 (c_Mo_goOn l base D cI cZ h l0 l1 t10 eq11) (o_Mo_goOn eq11) (rest := []) rfl hl.1 rfl (Nat.le_of_ble_eq_true rfl) ⟨(Nat.le_of_ble_eq_true rfl), (Nat.le_of_ble_eq_true rfl)⟩ ⟨(Nat.le_of_ble_eq_true rfl), (Nat.le_of_ble_eq_true rfl)⟩ d_Mo_fault_45 (fun H locs hS => ?_)
      refine lv_istore_n (lv' := [(1, .int q11.1), (0, .ref (base + l0)), (2, .int l2)]) hx hb d_Mo_fault_48 rfl hl (by decide) rfl (fun ls hl => ?_)
      refine lv_iload_n hx hb d_Mo_fault_49 rfl (lv_at hl 0 rfl) ?_
      refine lv_if_ge (tgt := 55) hx hb d_Mo_fault_50 (by decide) (fun c50_4 => ?_) (fun c50_4 => ?_)
      · rw [if_pos c50_4] at hM
        refine lv_iinc (v := (l2 + (1 : Int32))) (lv' := [(2, .int (l2 + (1 : Int32))), (1, .int q11.1), (0, .ref (base + l0))]) hx hb d_Mo_fault_55 hl (k := 2) rfl (by rw [oi_1]) (by decide) rfl (fun ls hl => ?_)
        refine lv_goto (tgt := 29) hx hb d_Mo_fault_58 (by decide) ?_
        exact ih q11.1 (l2 + (1 : Int32)) q11.2 hM _ _ _ hS (lv_sub hl [2, 1, 0] rfl)
      · rw [if_neg c50_4] at hM
        refine lv_iload_n hx hb d_Mo_fault_53 rfl (lv_at hl 2 rfl) ?_
        obtain rfl := Option.some.inj hM
        exact r_iret C hS d_Mo_fault_54
def f_Mo_fault (h : Hp) (l0 : Nat) : Option (Int32 × Hp) :=
  ck h 9 l0 (
    (sI h 9 l0 6 (0 : Int32)).bind fun h1 =>
    (sI h1 9 l0 7 (0 : Int32)).bind fun h2 =>
    (sI h2 9 l0 8 (0 : Int32)).bind fun h3 =>
    (sI h3 9 l0 9 (1 : Int32)).bind fun h4 =>
    (sI h4 9 l0 10 (0 : Int32)).bind fun h5 =>
    f_Mo_fault_29 l0 FU (0 : Int32) (0 : Int32) h5
  )
theorem o_Mo_fault {h : Hp} {l0 : Nat} {r : (Int32 × Hp)} (hM : f_Mo_fault h l0 = some r) : isO h 9 l0 = true := by
  unfold f_Mo_fault at hM
  exact (ck_some hM).1
set_option maxHeartbeats 4000000 in
set_option maxRecDepth 100000 in
theorem t_Mo_fault {h : Hp} {l0 : Nat} {r : (Int32 × Hp)} (C : Cx base D cI cZ b_Mo_fault 3 "MovedFoldersModel" "fault" (some .int) p s m args meth c) (hM : f_Mo_fault h l0 = some r) (H : Heap) (locs : List Loc) (ls : Array Slot) (hS : RS base D cI cZ s H locs h) (hl : lv_has ls 3 [(0, .ref (base + l0))]) : Wg l base D cI cZ 2 47 0 0 r.2 (some (.int r.1)) p e s m args below meth c H locs 0 0 (F0 m 0 ls []) := by
  have hx := C.1
  have hb := C.2.1
  unfold f_Mo_fault at hM
  replace hM := (ck_some hM).2
  refine lv_aload_n hx hb d_Mo_fault_0 rfl (lv_at hl 0 rfl) ?_
  refine lv_iconst (v := (0 : Int32)) hx hb d_Mo_fault_1 (by decide) ?_
  obtain ⟨h1, eh1, hM⟩ := bS hM
  refine r_putI C hS fp_Mo_89 eh1 d_Mo_fault_2 (fun H locs hS => ?_)
  refine lv_aload_n hx hb d_Mo_fault_5 rfl (lv_at hl 0 rfl) ?_
  refine lv_iconst (v := (0 : Int32)) hx hb d_Mo_fault_6 (by decide) ?_
  obtain ⟨h2, eh2, hM⟩ := bS hM
  refine r_putI C hS fp_Mo_86 eh2 d_Mo_fault_7 (fun H locs hS => ?_)
  refine lv_aload_n hx hb d_Mo_fault_10 rfl (lv_at hl 0 rfl) ?_
  refine lv_iconst (v := (0 : Int32)) hx hb d_Mo_fault_11 (by decide) ?_
  obtain ⟨h3, eh3, hM⟩ := bS hM
  refine r_putI C hS fp_Mo_100 eh3 d_Mo_fault_12 (fun H locs hS => ?_)
  refine lv_aload_n hx hb d_Mo_fault_15 rfl (lv_at hl 0 rfl) ?_
  refine lv_iconst (v := (1 : Int32)) hx hb d_Mo_fault_16 (by decide) ?_
  obtain ⟨h4, eh4, hM⟩ := bS hM
  refine r_putI C hS fp_Mo_110 eh4 d_Mo_fault_17 (fun H locs hS => ?_)
  refine lv_aload_n hx hb d_Mo_fault_20 rfl (lv_at hl 0 rfl) ?_
  refine lv_iconst (v := (0 : Int32)) hx hb d_Mo_fault_21 (by decide) ?_
  obtain ⟨h5, eh5, hM⟩ := bS hM
  refine r_putI C hS fp_Mo_107 eh5 d_Mo_fault_22 (fun H locs hS => ?_)
  refine lv_iconst (v := (0 : Int32)) hx hb d_Mo_fault_25 (by decide) ?_
  refine lv_istore_n (lv' := [(1, .int (0 : Int32)), (0, .ref (base + l0))]) hx hb d_Mo_fault_26 rfl hl (by decide) rfl (fun ls hl => ?_)
  refine lv_iconst (v := (0 : Int32)) hx hb d_Mo_fault_27 (by decide) ?_
  refine lv_istore_n (lv' := [(2, .int (0 : Int32)), (1, .int (0 : Int32)), (0, .ref (base + l0))]) hx hb d_Mo_fault_28 rfl hl (by decide) rfl (fun ls hl => ?_)
  exact t_Mo_fault_29  C  FU (0 : Int32) (0 : Int32) h5 hM _ _ _ hS (lv_sub hl [2, 1, 0] rfl)
theorem c_Mo_fault (l : Launch) (base : Nat) (D : va_G) (cI cZ : ClassId) (h : Hp) (l0 : Nat) {r : (Int32 × Hp)} (hM : f_Mo_fault h l0 = some r) : Ct l base D cI cZ y_Mo_fault b_Mo_fault 3 (some .int) 2 47 0 0 h [.ref (base + l0)] r.2 (some (.int r.1)) :=
  ct_of (by decide) (Nat.le_of_ble_eq_true rfl) (fun p e s m below meth c ls C hS hl => t_Mo_fault C hM _ _ _ hS hl)
theorem d_Mo_placeOf_0 : decode b_Mo_placeOf 0 = .ok (.iconst 0, 1) := by decide +kernel
theorem d_Mo_placeOf_1 : decode b_Mo_placeOf 1 = .ok (.istore_n 3, 1) := by decide +kernel
theorem d_Mo_placeOf_2 : decode b_Mo_placeOf 2 = .ok (.iload_n 3, 1) := by decide +kernel
theorem d_Mo_placeOf_3 : decode b_Mo_placeOf 3 = .ok (.aload_n 0, 1) := by decide +kernel
theorem d_Mo_placeOf_4 : decode b_Mo_placeOf 4 = .ok (.getfield 16, 3) := by decide +kernel
theorem d_Mo_placeOf_7 : decode b_Mo_placeOf 7 = .ok (.iload_n 1, 1) := by decide +kernel
theorem d_Mo_placeOf_8 : decode b_Mo_placeOf 8 = .ok (.iaload, 1) := by decide +kernel
theorem d_Mo_placeOf_9 : decode b_Mo_placeOf 9 = .ok (.if_icmp .ge 24, 3) := by decide +kernel
theorem d_Mo_placeOf_12 : decode b_Mo_placeOf 12 = .ok (.aload_n 0, 1) := by decide +kernel
theorem d_Mo_placeOf_13 : decode b_Mo_placeOf 13 = .ok (.getfield 7, 3) := by decide +kernel
theorem d_Mo_placeOf_16 : decode b_Mo_placeOf 16 = .ok (.bipush 12, 2) := by decide +kernel
theorem d_Mo_placeOf_18 : decode b_Mo_placeOf 18 = .ok (.iload_n 1, 1) := by decide +kernel
theorem d_Mo_placeOf_19 : decode b_Mo_placeOf 19 = .ok (.imul, 1) := by decide +kernel
theorem d_Mo_placeOf_20 : decode b_Mo_placeOf 20 = .ok (.iload_n 3, 1) := by decide +kernel
theorem d_Mo_placeOf_21 : decode b_Mo_placeOf 21 = .ok (.iadd, 1) := by decide +kernel
theorem d_Mo_placeOf_22 : decode b_Mo_placeOf 22 = .ok (.iaload, 1) := by decide +kernel
theorem d_Mo_placeOf_23 : decode b_Mo_placeOf 23 = .ok (.iload_n 2, 1) := by decide +kernel
theorem d_Mo_placeOf_24 : decode b_Mo_placeOf 24 = .ok (.if_icmp .ge 9, 3) := by decide +kernel
theorem d_Mo_placeOf_27 : decode b_Mo_placeOf 27 = .ok (.iinc 3 1, 3) := by decide +kernel
theorem d_Mo_placeOf_30 : decode b_Mo_placeOf 30 = .ok (.goto (-28), 3) := by decide +kernel
theorem d_Mo_placeOf_33 : decode b_Mo_placeOf 33 = .ok (.iload_n 3, 1) := by decide +kernel
theorem d_Mo_placeOf_34 : decode b_Mo_placeOf 34 = .ok (.ireturn, 1) := by decide +kernel
def f_Mo_placeOf_2 (h : Hp) (l0 : Nat) (l1 : Int32) (l2 : Int32) : Nat → Int32 → Option Int32
  | 0, _ => none
  | n + 1, l3 =>
    (gR h 9 l0 2).bind fun t1 =>
    (gA h false t1 l1).bind fun t2 =>
    if t2 ≤ l3 then (
      some l3
    ) else (
      (gR h 9 l0 0).bind fun t3 =>
      (gA h false t3 (((12 : Int32) * l1) + l3)).bind fun t4 =>
      if l2 ≤ t4 then (
        some l3
      ) else (
        f_Mo_placeOf_2 h l0 l1 l2 n (l3 + (1 : Int32))
      )
    )
set_option maxHeartbeats 4000000 in
set_option maxRecDepth 100000 in
theorem t_Mo_placeOf_2 {h : Hp} {l0 : Nat} {l1 : Int32} {l2 : Int32} {r : Int32} (C : Cx base D cI cZ b_Mo_placeOf 4 "MovedFoldersModel" "placeOf" (some .int) p s m args meth c)  : ∀ (n : Nat) (l3 : Int32), f_Mo_placeOf_2 h l0 l1 l2 n l3 = some r → ∀ (H : Heap) (locs : List Loc) (ls : Array Slot), RS base D cI cZ s H locs h → lv_has ls 4 [(0, .ref (base + l0)), (1, .int l1), (2, .int l2), (3, .int l3)] → Wg l base D cI cZ 0 0 0 0 h (some (.int r)) p e s m args below meth c H locs 0 0 (F0 m 2 ls []) := by
  have hx := C.1
  have hb := C.2.1
  intro n
  induction n with
  | zero =>
    intro l3 hM
    rw [f_Mo_placeOf_2] at hM
    cases hM
  | succ n ih =>
    intro l3 hM H locs ls hS hl
    rw [f_Mo_placeOf_2] at hM
    refine lv_iload_n hx hb d_Mo_placeOf_2 rfl (lv_at hl 3 rfl) ?_
    refine lv_aload_n hx hb d_Mo_placeOf_3 rfl (lv_at hl 0 rfl) ?_
    obtain ⟨t1, et1, hM⟩ := bS hM
    refine r_getR C hS fl_Mo_16 et1 d_Mo_placeOf_4 ?_
    refine lv_iload_n hx hb d_Mo_placeOf_7 rfl (lv_at hl 1 rfl) ?_
    obtain ⟨t2, et2, hM⟩ := bS hM
    refine r_iald C hS et2 d_Mo_placeOf_8 ?_
    refine lv_icmp_ge (tgt := 33) hx hb d_Mo_placeOf_9 (by decide) (fun c9_1 => ?_) (fun c9_1 => ?_)
    · rw [if_pos c9_1] at hM
      refine lv_iload_n hx hb d_Mo_placeOf_33 rfl (lv_at hl 3 rfl) ?_
      obtain rfl := Option.some.inj hM
      exact r_iret C hS d_Mo_placeOf_34
    · rw [if_neg c9_1] at hM
      refine lv_aload_n hx hb d_Mo_placeOf_12 rfl (lv_at hl 0 rfl) ?_
      obtain ⟨t3, et3, hM⟩ := bS hM
      refine r_getR C hS fl_Mo_7 et3 d_Mo_placeOf_13 ?_
      refine lv_bipush (v := (12 : Int32)) hx hb d_Mo_placeOf_16 (by decide) ?_
      refine lv_iload_n hx hb d_Mo_placeOf_18 rfl (lv_at hl 1 rfl) ?_
      refine lv_imul hx hb d_Mo_placeOf_19 ?_
      refine lv_iload_n hx hb d_Mo_placeOf_20 rfl (lv_at hl 3 rfl) ?_
      refine lv_iadd hx hb d_Mo_placeOf_21 ?_
      obtain ⟨t4, et4, hM⟩ := bS hM
      refine r_iald C hS et4 d_Mo_placeOf_22 ?_
      refine lv_iload_n hx hb d_Mo_placeOf_23 rfl (lv_at hl 2 rfl) ?_
      refine lv_icmp_ge (tgt := 33) hx hb d_Mo_placeOf_24 (by decide) (fun c24_2 => ?_) (fun c24_2 => ?_)
      · rw [if_pos c24_2] at hM
        refine lv_iload_n hx hb d_Mo_placeOf_33 rfl (lv_at hl 3 rfl) ?_
        obtain rfl := Option.some.inj hM
        exact r_iret C hS d_Mo_placeOf_34
      · rw [if_neg c24_2] at hM
        refine lv_iinc (v := (l3 + (1 : Int32))) (lv' := [(3, .int (l3 + (1 : Int32))), (0, .ref (base + l0)), (1, .int l1), (2, .int l2)]) hx hb d_Mo_placeOf_27 hl (k := 3) rfl (by rw [oi_1]) (by decide) rfl (fun ls hl => ?_)
        refine lv_goto (tgt := 2) hx hb d_Mo_placeOf_30 (by decide) ?_
        exact ih (l3 + (1 : Int32)) hM _ _ _ hS (lv_sub hl [1, 2, 3, 0] rfl)
def f_Mo_placeOf (h : Hp) (l0 : Nat) (l1 : Int32) (l2 : Int32) : Option Int32 :=
  ck h 9 l0 (
    f_Mo_placeOf_2 h l0 l1 l2 FU (0 : Int32)
  )
theorem o_Mo_placeOf {h : Hp} {l0 : Nat} {l1 : Int32} {l2 : Int32} {r : Int32} (hM : f_Mo_placeOf h l0 l1 l2 = some r) : isO h 9 l0 = true := by
  unfold f_Mo_placeOf at hM
  exact (ck_some hM).1
set_option maxHeartbeats 4000000 in
set_option maxRecDepth 100000 in
theorem t_Mo_placeOf {h : Hp} {l0 : Nat} {l1 : Int32} {l2 : Int32} {r : Int32} (C : Cx base D cI cZ b_Mo_placeOf 4 "MovedFoldersModel" "placeOf" (some .int) p s m args meth c) (hM : f_Mo_placeOf h l0 l1 l2 = some r) (H : Heap) (locs : List Loc) (ls : Array Slot) (hS : RS base D cI cZ s H locs h) (hl : lv_has ls 4 [(0, .ref (base + l0)), (1, .int l1), (2, .int l2)]) : Wg l base D cI cZ 0 0 0 0 h (some (.int r)) p e s m args below meth c H locs 0 0 (F0 m 0 ls []) := by
  have hx := C.1
  have hb := C.2.1
  unfold f_Mo_placeOf at hM
  replace hM := (ck_some hM).2
  refine lv_iconst (v := (0 : Int32)) hx hb d_Mo_placeOf_0 (by decide) ?_
  refine lv_istore_n (lv' := [(3, .int (0 : Int32)), (0, .ref (base + l0)), (1, .int l1), (2, .int l2)]) hx hb d_Mo_placeOf_1 rfl hl (by decide) rfl (fun ls hl => ?_)
  exact t_Mo_placeOf_2  C  FU (0 : Int32) hM _ _ _ hS (lv_sub hl [1, 2, 3, 0] rfl)
theorem c_Mo_placeOf (l : Launch) (base : Nat) (D : va_G) (cI cZ : ClassId) (h : Hp) (l0 : Nat) (l1 : Int32) (l2 : Int32) {r : Int32} (hM : f_Mo_placeOf h l0 l1 l2 = some r) : Ct l base D cI cZ y_Mo_placeOf b_Mo_placeOf 4 (some .int) 0 0 0 0 h [.ref (base + l0), .int l1, .int l2] h (some (.int r)) :=
  ct_of (by decide) (Nat.le_of_ble_eq_true rfl) (fun p e s m below meth c ls C hS hl => t_Mo_placeOf C hM _ _ _ hS hl)
theorem d_Mo_layAt_0 : decode b_Mo_layAt 0 = .ok (.aload_n 0, 1) := by decide +kernel
theorem d_Mo_layAt_1 : decode b_Mo_layAt 1 = .ok (.getfield 16, 3) := by decide +kernel
theorem d_Mo_layAt_4 : decode b_Mo_layAt 4 = .ok (.iload_n 1, 1) := by decide +kernel
theorem d_Mo_layAt_5 : decode b_Mo_layAt 5 = .ok (.iaload, 1) := by decide +kernel
theorem d_Mo_layAt_6 : decode b_Mo_layAt 6 = .ok (.istore 5, 2) := by decide +kernel
theorem d_Mo_layAt_8 : decode b_Mo_layAt 8 = .ok (.iload 5, 2) := by decide +kernel
theorem d_Mo_layAt_10 : decode b_Mo_layAt 10 = .ok (.iload_n 2, 1) := by decide +kernel
theorem d_Mo_layAt_11 : decode b_Mo_layAt 11 = .ok (.if_icmp .le 61, 3) := by decide +kernel
theorem d_Mo_layAt_14 : decode b_Mo_layAt 14 = .ok (.aload_n 0, 1) := by decide +kernel
theorem d_Mo_layAt_15 : decode b_Mo_layAt 15 = .ok (.getfield 7, 3) := by decide +kernel
theorem d_Mo_layAt_18 : decode b_Mo_layAt 18 = .ok (.bipush 12, 2) := by decide +kernel
theorem d_Mo_layAt_20 : decode b_Mo_layAt 20 = .ok (.iload_n 1, 1) := by decide +kernel
theorem d_Mo_layAt_21 : decode b_Mo_layAt 21 = .ok (.imul, 1) := by decide +kernel
theorem d_Mo_layAt_22 : decode b_Mo_layAt 22 = .ok (.iload 5, 2) := by decide +kernel
theorem d_Mo_layAt_24 : decode b_Mo_layAt 24 = .ok (.iadd, 1) := by decide +kernel
theorem d_Mo_layAt_25 : decode b_Mo_layAt 25 = .ok (.aload_n 0, 1) := by decide +kernel
theorem d_Mo_layAt_26 : decode b_Mo_layAt 26 = .ok (.getfield 7, 3) := by decide +kernel
theorem d_Mo_layAt_29 : decode b_Mo_layAt 29 = .ok (.bipush 12, 2) := by decide +kernel
theorem d_Mo_layAt_31 : decode b_Mo_layAt 31 = .ok (.iload_n 1, 1) := by decide +kernel
theorem d_Mo_layAt_32 : decode b_Mo_layAt 32 = .ok (.imul, 1) := by decide +kernel
theorem d_Mo_layAt_33 : decode b_Mo_layAt 33 = .ok (.iload 5, 2) := by decide +kernel
theorem d_Mo_layAt_35 : decode b_Mo_layAt 35 = .ok (.iadd, 1) := by decide +kernel
theorem d_Mo_layAt_36 : decode b_Mo_layAt 36 = .ok (.iconst 1, 1) := by decide +kernel
theorem d_Mo_layAt_37 : decode b_Mo_layAt 37 = .ok (.isub, 1) := by decide +kernel
theorem d_Mo_layAt_38 : decode b_Mo_layAt 38 = .ok (.iaload, 1) := by decide +kernel
theorem d_Mo_layAt_39 : decode b_Mo_layAt 39 = .ok (.iastore, 1) := by decide +kernel
theorem d_Mo_layAt_40 : decode b_Mo_layAt 40 = .ok (.aload_n 0, 1) := by decide +kernel
theorem d_Mo_layAt_41 : decode b_Mo_layAt 41 = .ok (.getfield 13, 3) := by decide +kernel
theorem d_Mo_layAt_44 : decode b_Mo_layAt 44 = .ok (.bipush 12, 2) := by decide +kernel
theorem d_Mo_layAt_46 : decode b_Mo_layAt 46 = .ok (.iload_n 1, 1) := by decide +kernel
theorem d_Mo_layAt_47 : decode b_Mo_layAt 47 = .ok (.imul, 1) := by decide +kernel
theorem d_Mo_layAt_48 : decode b_Mo_layAt 48 = .ok (.iload 5, 2) := by decide +kernel
theorem d_Mo_layAt_50 : decode b_Mo_layAt 50 = .ok (.iadd, 1) := by decide +kernel
theorem d_Mo_layAt_51 : decode b_Mo_layAt 51 = .ok (.aload_n 0, 1) := by decide +kernel
theorem d_Mo_layAt_52 : decode b_Mo_layAt 52 = .ok (.getfield 13, 3) := by decide +kernel
theorem d_Mo_layAt_55 : decode b_Mo_layAt 55 = .ok (.bipush 12, 2) := by decide +kernel
theorem d_Mo_layAt_57 : decode b_Mo_layAt 57 = .ok (.iload_n 1, 1) := by decide +kernel
theorem d_Mo_layAt_58 : decode b_Mo_layAt 58 = .ok (.imul, 1) := by decide +kernel
theorem d_Mo_layAt_59 : decode b_Mo_layAt 59 = .ok (.iload 5, 2) := by decide +kernel
theorem d_Mo_layAt_61 : decode b_Mo_layAt 61 = .ok (.iadd, 1) := by decide +kernel
theorem d_Mo_layAt_62 : decode b_Mo_layAt 62 = .ok (.iconst 1, 1) := by decide +kernel
theorem d_Mo_layAt_63 : decode b_Mo_layAt 63 = .ok (.isub, 1) := by decide +kernel
theorem d_Mo_layAt_64 : decode b_Mo_layAt 64 = .ok (.iaload, 1) := by decide +kernel
theorem d_Mo_layAt_65 : decode b_Mo_layAt 65 = .ok (.iastore, 1) := by decide +kernel
theorem d_Mo_layAt_66 : decode b_Mo_layAt 66 = .ok (.iinc 5 (-1), 3) := by decide +kernel
theorem d_Mo_layAt_69 : decode b_Mo_layAt 69 = .ok (.goto (-61), 3) := by decide +kernel
theorem d_Mo_layAt_72 : decode b_Mo_layAt 72 = .ok (.aload_n 0, 1) := by decide +kernel
theorem d_Mo_layAt_73 : decode b_Mo_layAt 73 = .ok (.getfield 7, 3) := by decide +kernel
theorem d_Mo_layAt_76 : decode b_Mo_layAt 76 = .ok (.bipush 12, 2) := by decide +kernel
theorem d_Mo_layAt_78 : decode b_Mo_layAt 78 = .ok (.iload_n 1, 1) := by decide +kernel
theorem d_Mo_layAt_79 : decode b_Mo_layAt 79 = .ok (.imul, 1) := by decide +kernel
theorem d_Mo_layAt_80 : decode b_Mo_layAt 80 = .ok (.iload_n 2, 1) := by decide +kernel
theorem d_Mo_layAt_81 : decode b_Mo_layAt 81 = .ok (.iadd, 1) := by decide +kernel
theorem d_Mo_layAt_82 : decode b_Mo_layAt 82 = .ok (.iload_n 3, 1) := by decide +kernel
theorem d_Mo_layAt_83 : decode b_Mo_layAt 83 = .ok (.iastore, 1) := by decide +kernel
theorem d_Mo_layAt_84 : decode b_Mo_layAt 84 = .ok (.aload_n 0, 1) := by decide +kernel
theorem d_Mo_layAt_85 : decode b_Mo_layAt 85 = .ok (.getfield 13, 3) := by decide +kernel
theorem d_Mo_layAt_88 : decode b_Mo_layAt 88 = .ok (.bipush 12, 2) := by decide +kernel
theorem d_Mo_layAt_90 : decode b_Mo_layAt 90 = .ok (.iload_n 1, 1) := by decide +kernel
theorem d_Mo_layAt_91 : decode b_Mo_layAt 91 = .ok (.imul, 1) := by decide +kernel
theorem d_Mo_layAt_92 : decode b_Mo_layAt 92 = .ok (.iload_n 2, 1) := by decide +kernel
theorem d_Mo_layAt_93 : decode b_Mo_layAt 93 = .ok (.iadd, 1) := by decide +kernel
theorem d_Mo_layAt_94 : decode b_Mo_layAt 94 = .ok (.iload 4, 2) := by decide +kernel
theorem d_Mo_layAt_96 : decode b_Mo_layAt 96 = .ok (.iastore, 1) := by decide +kernel
theorem d_Mo_layAt_97 : decode b_Mo_layAt 97 = .ok (.aload_n 0, 1) := by decide +kernel
theorem d_Mo_layAt_98 : decode b_Mo_layAt 98 = .ok (.getfield 16, 3) := by decide +kernel
theorem d_Mo_layAt_101 : decode b_Mo_layAt 101 = .ok (.iload_n 1, 1) := by decide +kernel
theorem d_Mo_layAt_102 : decode b_Mo_layAt 102 = .ok (.dup2, 1) := by decide +kernel
theorem d_Mo_layAt_103 : decode b_Mo_layAt 103 = .ok (.iaload, 1) := by decide +kernel
theorem d_Mo_layAt_104 : decode b_Mo_layAt 104 = .ok (.iconst 1, 1) := by decide +kernel
theorem d_Mo_layAt_105 : decode b_Mo_layAt 105 = .ok (.iadd, 1) := by decide +kernel
theorem d_Mo_layAt_106 : decode b_Mo_layAt 106 = .ok (.iastore, 1) := by decide +kernel
theorem d_Mo_layAt_107 : decode b_Mo_layAt 107 = .ok (.return_, 1) := by decide +kernel
def f_Mo_layAt_8 (l0 : Nat) (l1 : Int32) (l2 : Int32) (l3 : Int32) (l4 : Int32) : Nat → Int32 → Hp → Option Hp
  | 0, _, _ => none
  | n + 1, l5, h =>
    if l5 ≤ l2 then (
      (gR h 9 l0 0).bind fun t3 =>
      (sA h t3 (((12 : Int32) * l1) + l2) l3).bind fun h4 =>
      (gR h4 9 l0 1).bind fun t5 =>
      (sA h4 t5 (((12 : Int32) * l1) + l2) l4).bind fun h6 =>
      (gR h6 9 l0 2).bind fun t7 =>
      (gA h6 false t7 l1).bind fun t8 =>
      (sA h6 t7 l1 (t8 + (1 : Int32))).bind fun h9 =>
      some h9
    ) else (
      (gR h 9 l0 0).bind fun t10 =>
      (gR h 9 l0 0).bind fun t11 =>
      (gA h false t11 ((((12 : Int32) * l1) + l5) - (1 : Int32))).bind fun t12 =>
      (sA h t10 (((12 : Int32) * l1) + l5) t12).bind fun h13 =>
      (gR h13 9 l0 1).bind fun t14 =>
      (gR h13 9 l0 1).bind fun t15 =>
      (gA h13 false t15 ((((12 : Int32) * l1) + l5) - (1 : Int32))).bind fun t16 =>
      (sA h13 t14 (((12 : Int32) * l1) + l5) t16).bind fun h17 =>
      f_Mo_layAt_8 l0 l1 l2 l3 l4 n (l5 + (-1 : Int32)) h17
    )
set_option maxHeartbeats 4000000 in
set_option maxRecDepth 100000 in
theorem t_Mo_layAt_8 {l0 : Nat} {l1 : Int32} {l2 : Int32} {l3 : Int32} {l4 : Int32} {r : Hp} (C : Cx base D cI cZ b_Mo_layAt 6 "MovedFoldersModel" "layAt" none p s m args meth c)  : ∀ (n : Nat) (l5 : Int32) (h : Hp), f_Mo_layAt_8 l0 l1 l2 l3 l4 n l5 h = some r → ∀ (H : Heap) (locs : List Loc) (ls : Array Slot), RS base D cI cZ s H locs h → lv_has ls 6 [(0, .ref (base + l0)), (1, .int l1), (2, .int l2), (3, .int l3), (4, .int l4), (5, .int l5)] → Wg l base D cI cZ 0 0 0 0 r none p e s m args below meth c H locs 0 0 (F0 m 8 ls []) := by
  have hx := C.1
  have hb := C.2.1
  intro n
  induction n with
  | zero =>
    intro l5 h hM
    rw [f_Mo_layAt_8] at hM
    cases hM
  | succ n ih =>
    intro l5 h hM H locs ls hS hl
    rw [f_Mo_layAt_8] at hM
    refine lv_iload hx hb d_Mo_layAt_8 (lv_at hl 5 rfl) ?_
    refine lv_iload_n hx hb d_Mo_layAt_10 rfl (lv_at hl 2 rfl) ?_
    refine lv_icmp_le (tgt := 72) hx hb d_Mo_layAt_11 (by decide) (fun c11_1 => ?_) (fun c11_1 => ?_)
    · rw [if_pos c11_1] at hM
      refine lv_aload_n hx hb d_Mo_layAt_72 rfl (lv_at hl 0 rfl) ?_
      obtain ⟨t3, et3, hM⟩ := bS hM
      refine r_getR C hS fl_Mo_7 et3 d_Mo_layAt_73 ?_
      refine lv_bipush (v := (12 : Int32)) hx hb d_Mo_layAt_76 (by decide) ?_
      refine lv_iload_n hx hb d_Mo_layAt_78 rfl (lv_at hl 1 rfl) ?_
      refine lv_imul hx hb d_Mo_layAt_79 ?_
      refine lv_iload_n hx hb d_Mo_layAt_80 rfl (lv_at hl 2 rfl) ?_
      refine lv_iadd hx hb d_Mo_layAt_81 ?_
      refine lv_iload_n hx hb d_Mo_layAt_82 rfl (lv_at hl 3 rfl) ?_
      obtain ⟨h4, eh4, hM⟩ := bS hM
      refine r_iast C hS eh4 d_Mo_layAt_83 (fun H locs hS => ?_)
      refine lv_aload_n hx hb d_Mo_layAt_84 rfl (lv_at hl 0 rfl) ?_
      obtain ⟨t5, et5, hM⟩ := bS hM
      refine r_getR C hS fl_Mo_13 et5 d_Mo_layAt_85 ?_
      refine lv_bipush (v := (12 : Int32)) hx hb d_Mo_layAt_88 (by decide) ?_
      refine lv_iload_n hx hb d_Mo_layAt_90 rfl (lv_at hl 1 rfl) ?_
      refine lv_imul hx hb d_Mo_layAt_91 ?_
      refine lv_iload_n hx hb d_Mo_layAt_92 rfl (lv_at hl 2 rfl) ?_
      refine lv_iadd hx hb d_Mo_layAt_93 ?_
      refine lv_iload hx hb d_Mo_layAt_94 (lv_at hl 4 rfl) ?_
      obtain ⟨h6, eh6, hM⟩ := bS hM
      refine r_iast C hS eh6 d_Mo_layAt_96 (fun H locs hS => ?_)
      refine lv_aload_n hx hb d_Mo_layAt_97 rfl (lv_at hl 0 rfl) ?_
      obtain ⟨t7, et7, hM⟩ := bS hM
      refine r_getR C hS fl_Mo_16 et7 d_Mo_layAt_98 ?_
      refine lv_iload_n hx hb d_Mo_layAt_101 rfl (lv_at hl 1 rfl) ?_
      refine lv_dup2_11 hx hb d_Mo_layAt_102 rfl rfl ?_
      obtain ⟨t8, et8, hM⟩ := bS hM
      refine r_iald C hS et8 d_Mo_layAt_103 ?_
      refine lv_iconst (v := (1 : Int32)) hx hb d_Mo_layAt_104 (by decide) ?_
      refine lv_iadd hx hb d_Mo_layAt_105 ?_
      obtain ⟨h9, eh9, hM⟩ := bS hM
      refine r_iast C hS eh9 d_Mo_layAt_106 (fun H locs hS => ?_)
      obtain rfl := Option.some.inj hM
      exact r_vret C hS d_Mo_layAt_107
    · rw [if_neg c11_1] at hM
      refine lv_aload_n hx hb d_Mo_layAt_14 rfl (lv_at hl 0 rfl) ?_
      obtain ⟨t10, et10, hM⟩ := bS hM
      refine r_getR C hS fl_Mo_7 et10 d_Mo_layAt_15 ?_
      refine lv_bipush (v := (12 : Int32)) hx hb d_Mo_layAt_18 (by decide) ?_
      refine lv_iload_n hx hb d_Mo_layAt_20 rfl (lv_at hl 1 rfl) ?_
      refine lv_imul hx hb d_Mo_layAt_21 ?_
      refine lv_iload hx hb d_Mo_layAt_22 (lv_at hl 5 rfl) ?_
      refine lv_iadd hx hb d_Mo_layAt_24 ?_
      refine lv_aload_n hx hb d_Mo_layAt_25 rfl (lv_at hl 0 rfl) ?_
      obtain ⟨t11, et11, hM⟩ := bS hM
      refine r_getR C hS fl_Mo_7 et11 d_Mo_layAt_26 ?_
      refine lv_bipush (v := (12 : Int32)) hx hb d_Mo_layAt_29 (by decide) ?_
      refine lv_iload_n hx hb d_Mo_layAt_31 rfl (lv_at hl 1 rfl) ?_
      refine lv_imul hx hb d_Mo_layAt_32 ?_
      refine lv_iload hx hb d_Mo_layAt_33 (lv_at hl 5 rfl) ?_
      refine lv_iadd hx hb d_Mo_layAt_35 ?_
      refine lv_iconst (v := (1 : Int32)) hx hb d_Mo_layAt_36 (by decide) ?_
      refine lv_isub hx hb d_Mo_layAt_37 ?_
      obtain ⟨t12, et12, hM⟩ := bS hM
      refine r_iald C hS et12 d_Mo_layAt_38 ?_
      obtain ⟨h13, eh13, hM⟩ := bS hM
      refine r_iast C hS eh13 d_Mo_layAt_39 (fun H locs hS => ?_)
      refine lv_aload_n hx hb d_Mo_layAt_40 rfl (lv_at hl 0 rfl) ?_
      obtain ⟨t14, et14, hM⟩ := bS hM
      refine r_getR C hS fl_Mo_13 et14 d_Mo_layAt_41 ?_
      refine lv_bipush (v := (12 : Int32)) hx hb d_Mo_layAt_44 (by decide) ?_
      refine lv_iload_n hx hb d_Mo_layAt_46 rfl (lv_at hl 1 rfl) ?_
      refine lv_imul hx hb d_Mo_layAt_47 ?_
      refine lv_iload hx hb d_Mo_layAt_48 (lv_at hl 5 rfl) ?_
      refine lv_iadd hx hb d_Mo_layAt_50 ?_
      refine lv_aload_n hx hb d_Mo_layAt_51 rfl (lv_at hl 0 rfl) ?_
      obtain ⟨t15, et15, hM⟩ := bS hM
      refine r_getR C hS fl_Mo_13 et15 d_Mo_layAt_52 ?_
      refine lv_bipush (v := (12 : Int32)) hx hb d_Mo_layAt_55 (by decide) ?_
      refine lv_iload_n hx hb d_Mo_layAt_57 rfl (lv_at hl 1 rfl) ?_
      refine lv_imul hx hb d_Mo_layAt_58 ?_
      refine lv_iload hx hb d_Mo_layAt_59 (lv_at hl 5 rfl) ?_
      refine lv_iadd hx hb d_Mo_layAt_61 ?_
      refine lv_iconst (v := (1 : Int32)) hx hb d_Mo_layAt_62 (by decide) ?_
      refine lv_isub hx hb d_Mo_layAt_63 ?_
      obtain ⟨t16, et16, hM⟩ := bS hM
      refine r_iald C hS et16 d_Mo_layAt_64 ?_
      obtain ⟨h17, eh17, hM⟩ := bS hM
      refine r_iast C hS eh17 d_Mo_layAt_65 (fun H locs hS => ?_)
      refine lv_iinc (v := (l5 + (-1 : Int32))) (lv' := [(5, .int (l5 + (-1 : Int32))), (0, .ref (base + l0)), (1, .int l1), (2, .int l2), (3, .int l3), (4, .int l4)]) hx hb d_Mo_layAt_66 hl (k := 5) rfl (by rw [oi_m1]) (by decide) rfl (fun ls hl => ?_)
      refine lv_goto (tgt := 8) hx hb d_Mo_layAt_69 (by decide) ?_
      exact ih (l5 + (-1 : Int32)) h17 hM _ _ _ hS (lv_sub hl [1, 2, 3, 4, 5, 0] rfl)
def f_Mo_layAt (h : Hp) (l0 : Nat) (l1 : Int32) (l2 : Int32) (l3 : Int32) (l4 : Int32) : Option Hp :=
  ck h 9 l0 (
    (gR h 9 l0 2).bind fun t1 =>
    (gA h false t1 l1).bind fun t2 =>
    f_Mo_layAt_8 l0 l1 l2 l3 l4 FU t2 h
  )
theorem o_Mo_layAt {h : Hp} {l0 : Nat} {l1 : Int32} {l2 : Int32} {l3 : Int32} {l4 : Int32} {r : Hp} (hM : f_Mo_layAt h l0 l1 l2 l3 l4 = some r) : isO h 9 l0 = true := by
  unfold f_Mo_layAt at hM
  exact (ck_some hM).1
set_option maxHeartbeats 4000000 in
set_option maxRecDepth 100000 in
theorem t_Mo_layAt {h : Hp} {l0 : Nat} {l1 : Int32} {l2 : Int32} {l3 : Int32} {l4 : Int32} {r : Hp} (C : Cx base D cI cZ b_Mo_layAt 6 "MovedFoldersModel" "layAt" none p s m args meth c) (hM : f_Mo_layAt h l0 l1 l2 l3 l4 = some r) (H : Heap) (locs : List Loc) (ls : Array Slot) (hS : RS base D cI cZ s H locs h) (hl : lv_has ls 6 [(0, .ref (base + l0)), (1, .int l1), (2, .int l2), (3, .int l3), (4, .int l4)]) : Wg l base D cI cZ 0 0 0 0 r none p e s m args below meth c H locs 0 0 (F0 m 0 ls []) := by
  have hx := C.1
  have hb := C.2.1
  unfold f_Mo_layAt at hM
  replace hM := (ck_some hM).2
  refine lv_aload_n hx hb d_Mo_layAt_0 rfl (lv_at hl 0 rfl) ?_
  obtain ⟨t1, et1, hM⟩ := bS hM
  refine r_getR C hS fl_Mo_16 et1 d_Mo_layAt_1 ?_
  refine lv_iload_n hx hb d_Mo_layAt_4 rfl (lv_at hl 1 rfl) ?_
  obtain ⟨t2, et2, hM⟩ := bS hM
  refine r_iald C hS et2 d_Mo_layAt_5 ?_
  refine lv_istore (lv' := [(5, .int t2), (0, .ref (base + l0)), (1, .int l1), (2, .int l2), (3, .int l3), (4, .int l4)]) hx hb d_Mo_layAt_6 hl (by decide) rfl (fun ls hl => ?_)
  exact t_Mo_layAt_8  C  FU t2 h hM _ _ _ hS (lv_sub hl [1, 2, 3, 4, 5, 0] rfl)
theorem c_Mo_layAt (l : Launch) (base : Nat) (D : va_G) (cI cZ : ClassId) (h : Hp) (l0 : Nat) (l1 : Int32) (l2 : Int32) (l3 : Int32) (l4 : Int32) {r : Hp} (hM : f_Mo_layAt h l0 l1 l2 l3 l4 = some r) : Ct l base D cI cZ y_Mo_layAt b_Mo_layAt 6 none 0 0 0 0 h [.ref (base + l0), .int l1, .int l2, .int l3, .int l4] r none :=
  ct_of (by decide) (Nat.le_of_ble_eq_true rfl) (fun p e s m below meth c ls C hS hl => t_Mo_layAt C hM _ _ _ hS hl)
theorem d_Mo_put_0 : decode b_Mo_put 0 = .ok (.iload_n 1, 1) := by decide +kernel
theorem d_Mo_put_1 : decode b_Mo_put 1 = .ok (.invokestatic 69, 3) := by decide +kernel
theorem d_Mo_put_4 : decode b_Mo_put 4 = .ok (.ifCond .ne 5, 3) := by decide +kernel
theorem d_Mo_put_7 : decode b_Mo_put 7 = .ok (.iconst (-1), 1) := by decide +kernel
theorem d_Mo_put_8 : decode b_Mo_put 8 = .ok (.ireturn, 1) := by decide +kernel
theorem d_Mo_put_9 : decode b_Mo_put 9 = .ok (.aload_n 0, 1) := by decide +kernel
theorem d_Mo_put_10 : decode b_Mo_put 10 = .ok (.invokevirtual 117, 3) := by decide +kernel
theorem d_Mo_put_13 : decode b_Mo_put 13 = .ok (.ifCond .lt 6, 3) := by decide +kernel
theorem d_Mo_put_16 : decode b_Mo_put 16 = .ok (.bipush (-5), 2) := by decide +kernel
theorem d_Mo_put_18 : decode b_Mo_put 18 = .ok (.ireturn, 1) := by decide +kernel
theorem d_Mo_put_19 : decode b_Mo_put 19 = .ok (.bipush 10, 2) := by decide +kernel
theorem d_Mo_put_21 : decode b_Mo_put 21 = .ok (.aload_n 0, 1) := by decide +kernel
theorem d_Mo_put_22 : decode b_Mo_put 22 = .ok (.getfield 89, 3) := by decide +kernel
theorem d_Mo_put_25 : decode b_Mo_put 25 = .ok (.imul, 1) := by decide +kernel
theorem d_Mo_put_26 : decode b_Mo_put 26 = .ok (.aload_n 0, 1) := by decide +kernel
theorem d_Mo_put_27 : decode b_Mo_put 27 = .ok (.getfield 100, 3) := by decide +kernel
theorem d_Mo_put_30 : decode b_Mo_put 30 = .ok (.iadd, 1) := by decide +kernel
theorem d_Mo_put_31 : decode b_Mo_put 31 = .ok (.istore_n 2, 1) := by decide +kernel
theorem d_Mo_put_32 : decode b_Mo_put 32 = .ok (.aload_n 0, 1) := by decide +kernel
theorem d_Mo_put_33 : decode b_Mo_put 33 = .ok (.iload_n 1, 1) := by decide +kernel
theorem d_Mo_put_34 : decode b_Mo_put 34 = .ok (.iload_n 2, 1) := by decide +kernel
theorem d_Mo_put_35 : decode b_Mo_put 35 = .ok (.invokevirtual 121, 3) := by decide +kernel
theorem d_Mo_put_38 : decode b_Mo_put 38 = .ok (.istore_n 3, 1) := by decide +kernel
theorem d_Mo_put_39 : decode b_Mo_put 39 = .ok (.iload_n 3, 1) := by decide +kernel
theorem d_Mo_put_40 : decode b_Mo_put 40 = .ok (.aload_n 0, 1) := by decide +kernel
theorem d_Mo_put_41 : decode b_Mo_put 41 = .ok (.getfield 16, 3) := by decide +kernel
theorem d_Mo_put_44 : decode b_Mo_put 44 = .ok (.iload_n 1, 1) := by decide +kernel
theorem d_Mo_put_45 : decode b_Mo_put 45 = .ok (.iaload, 1) := by decide +kernel
theorem d_Mo_put_46 : decode b_Mo_put 46 = .ok (.if_icmp .ge 22, 3) := by decide +kernel
theorem d_Mo_put_49 : decode b_Mo_put 49 = .ok (.aload_n 0, 1) := by decide +kernel
theorem d_Mo_put_50 : decode b_Mo_put 50 = .ok (.getfield 7, 3) := by decide +kernel
theorem d_Mo_put_53 : decode b_Mo_put 53 = .ok (.bipush 12, 2) := by decide +kernel
theorem d_Mo_put_55 : decode b_Mo_put 55 = .ok (.iload_n 1, 1) := by decide +kernel
theorem d_Mo_put_56 : decode b_Mo_put 56 = .ok (.imul, 1) := by decide +kernel
theorem d_Mo_put_57 : decode b_Mo_put 57 = .ok (.iload_n 3, 1) := by decide +kernel
theorem d_Mo_put_58 : decode b_Mo_put 58 = .ok (.iadd, 1) := by decide +kernel
theorem d_Mo_put_59 : decode b_Mo_put 59 = .ok (.iaload, 1) := by decide +kernel
theorem d_Mo_put_60 : decode b_Mo_put 60 = .ok (.iload_n 2, 1) := by decide +kernel
theorem d_Mo_put_61 : decode b_Mo_put 61 = .ok (.if_icmp .ne 7, 3) := by decide +kernel
theorem d_Mo_put_64 : decode b_Mo_put 64 = .ok (.iconst 1, 1) := by decide +kernel
theorem d_Mo_put_65 : decode b_Mo_put 65 = .ok (.goto 4, 3) := by decide +kernel
theorem d_Mo_put_68 : decode b_Mo_put 68 = .ok (.iconst 0, 1) := by decide +kernel
theorem d_Mo_put_69 : decode b_Mo_put 69 = .ok (.istore 4, 2) := by decide +kernel
theorem d_Mo_put_71 : decode b_Mo_put 71 = .ok (.iload 4, 2) := by decide +kernel
theorem d_Mo_put_73 : decode b_Mo_put 73 = .ok (.ifCond .ne 17, 3) := by decide +kernel
theorem d_Mo_put_76 : decode b_Mo_put 76 = .ok (.aload_n 0, 1) := by decide +kernel
theorem d_Mo_put_77 : decode b_Mo_put 77 = .ok (.getfield 16, 3) := by decide +kernel
theorem d_Mo_put_80 : decode b_Mo_put 80 = .ok (.iload_n 1, 1) := by decide +kernel
theorem d_Mo_put_81 : decode b_Mo_put 81 = .ok (.iaload, 1) := by decide +kernel
theorem d_Mo_put_82 : decode b_Mo_put 82 = .ok (.bipush 12, 2) := by decide +kernel
theorem d_Mo_put_84 : decode b_Mo_put 84 = .ok (.if_icmp .ne 6, 3) := by decide +kernel
theorem d_Mo_put_87 : decode b_Mo_put 87 = .ok (.bipush (-4), 2) := by decide +kernel
theorem d_Mo_put_89 : decode b_Mo_put 89 = .ok (.ireturn, 1) := by decide +kernel
theorem d_Mo_put_90 : decode b_Mo_put 90 = .ok (.iload 4, 2) := by decide +kernel
theorem d_Mo_put_92 : decode b_Mo_put 92 = .ok (.ifCond .eq 21, 3) := by decide +kernel
theorem d_Mo_put_95 : decode b_Mo_put 95 = .ok (.aload_n 0, 1) := by decide +kernel
theorem d_Mo_put_96 : decode b_Mo_put 96 = .ok (.getfield 13, 3) := by decide +kernel
theorem d_Mo_put_99 : decode b_Mo_put 99 = .ok (.bipush 12, 2) := by decide +kernel
theorem d_Mo_put_101 : decode b_Mo_put 101 = .ok (.iload_n 1, 1) := by decide +kernel
theorem d_Mo_put_102 : decode b_Mo_put 102 = .ok (.imul, 1) := by decide +kernel
theorem d_Mo_put_103 : decode b_Mo_put 103 = .ok (.iload_n 3, 1) := by decide +kernel
theorem d_Mo_put_104 : decode b_Mo_put 104 = .ok (.iadd, 1) := by decide +kernel
theorem d_Mo_put_105 : decode b_Mo_put 105 = .ok (.aload_n 0, 1) := by decide +kernel
theorem d_Mo_put_106 : decode b_Mo_put 106 = .ok (.getfield 110, 3) := by decide +kernel
theorem d_Mo_put_109 : decode b_Mo_put 109 = .ok (.iastore, 1) := by decide +kernel
theorem d_Mo_put_110 : decode b_Mo_put 110 = .ok (.goto 14, 3) := by decide +kernel
theorem d_Mo_put_113 : decode b_Mo_put 113 = .ok (.aload_n 0, 1) := by decide +kernel
theorem d_Mo_put_114 : decode b_Mo_put 114 = .ok (.iload_n 1, 1) := by decide +kernel
theorem d_Mo_put_115 : decode b_Mo_put 115 = .ok (.iload_n 3, 1) := by decide +kernel
theorem d_Mo_put_116 : decode b_Mo_put 116 = .ok (.iload_n 2, 1) := by decide +kernel
theorem d_Mo_put_117 : decode b_Mo_put 117 = .ok (.aload_n 0, 1) := by decide +kernel
theorem d_Mo_put_118 : decode b_Mo_put 118 = .ok (.getfield 110, 3) := by decide +kernel
theorem d_Mo_put_121 : decode b_Mo_put 121 = .ok (.invokevirtual 124, 3) := by decide +kernel
theorem d_Mo_put_124 : decode b_Mo_put 124 = .ok (.aload_n 0, 1) := by decide +kernel
theorem d_Mo_put_125 : decode b_Mo_put 125 = .ok (.iconst 0, 1) := by decide +kernel
theorem d_Mo_put_126 : decode b_Mo_put 126 = .ok (.putfield 79, 3) := by decide +kernel
theorem d_Mo_put_129 : decode b_Mo_put 129 = .ok (.aload_n 0, 1) := by decide +kernel
theorem d_Mo_put_130 : decode b_Mo_put 130 = .ok (.getfield 16, 3) := by decide +kernel
theorem d_Mo_put_133 : decode b_Mo_put 133 = .ok (.iload_n 1, 1) := by decide +kernel
theorem d_Mo_put_134 : decode b_Mo_put 134 = .ok (.iaload, 1) := by decide +kernel
theorem d_Mo_put_135 : decode b_Mo_put 135 = .ok (.ireturn, 1) := by decide +kernel
def f_Mo_put_90 (h : Hp) (l0 : Nat) (l1 : Int32) (l2 : Int32) (l3 : Int32) (l4 : Int32) : Option (Int32 × Hp) :=
  (
    if l4 = (0 : Int32) then (
      (gI h 9 l0 9).bind fun t12 =>
      (f_Mo_layAt h l0 l1 l3 l2 t12).bind fun h13 =>
      some h13
    ) else (
      (gR h 9 l0 1).bind fun t14 =>
      (gI h 9 l0 9).bind fun t15 =>
      (sA h t14 (((12 : Int32) * l1) + l3) t15).bind fun h16 =>
      some h16
    )
  ).bind fun h11 =>
  (sI h11 9 l0 5 (0 : Int32)).bind fun h17 =>
  (gR h17 9 l0 2).bind fun t18 =>
  (gA h17 false t18 l1).bind fun t19 =>
  some (t19, h17)
set_option maxHeartbeats 4000000 in
set_option maxRecDepth 100000 in
theorem t_Mo_put_90 {h : Hp} {l0 : Nat} {l1 : Int32} {l2 : Int32} {l3 : Int32} {l4 : Int32} {r : (Int32 × Hp)} (C : Cx base D cI cZ b_Mo_put 5 "MovedFoldersModel" "put" (some .int) p s m args meth c)  (hM : f_Mo_put_90 h l0 l1 l2 l3 l4 = some r) (H : Heap) (locs : List Loc) (ls : Array Slot) (hS : RS base D cI cZ s H locs h) (hl : lv_has ls 5 [(0, .ref (base + l0)), (1, .int l1), (2, .int l2), (3, .int l3), (4, .int l4)]) : Wg l base D cI cZ 3 69 0 0 r.2 (some (.int r.1)) p e s m args below meth c H locs 0 0 (F0 m 90 ls []) := by
  have hx := C.1
  have hb := C.2.1
  unfold f_Mo_put_90 at hM
  refine lv_iload hx hb d_Mo_put_90 (lv_at hl 4 rfl) ?_
  obtain ⟨h11, eh11, hM⟩ := bS hM
  have kJ124_7 : ∀ (H : Heap) (locs : List Loc) (ls : Array Slot), RS base D cI cZ s H locs h11 → lv_has ls 5 [(0, .ref (base + l0)), (1, .int l1)] → Wg l base D cI cZ 3 69 0 0 r.2 (some (.int r.1)) p e s m args below meth c H locs 0 0 (F0 m 124 ls []) := by
    intro H locs ls hS hl
    refine lv_aload_n hx hb d_Mo_put_124 rfl (lv_at hl 0 rfl) ?_
    refine lv_iconst (v := (0 : Int32)) hx hb d_Mo_put_125 (by decide) ?_
    obtain ⟨h17, eh17, hM⟩ := bS hM
    refine r_putI C hS fp_Mo_79 eh17 d_Mo_put_126 (fun H locs hS => ?_)
    refine lv_aload_n hx hb d_Mo_put_129 rfl (lv_at hl 0 rfl) ?_
    obtain ⟨t18, et18, hM⟩ := bS hM
    refine r_getR C hS fl_Mo_16 et18 d_Mo_put_130 ?_
    refine lv_iload_n hx hb d_Mo_put_133 rfl (lv_at hl 1 rfl) ?_
    obtain ⟨t19, et19, hM⟩ := bS hM
    refine r_iald C hS et19 d_Mo_put_134 ?_
    obtain rfl := Option.some.inj hM
    exact r_iret C hS d_Mo_put_135
  refine lv_if_eq (tgt := 113) hx hb d_Mo_put_92 (by decide) (fun c92_8 => ?_) (fun c92_8 => ?_)
  · rw [if_pos c92_8] at eh11
    refine lv_aload_n hx hb d_Mo_put_113 rfl (lv_at hl 0 rfl) ?_
    refine lv_iload_n hx hb d_Mo_put_114 rfl (lv_at hl 1 rfl) ?_
    refine lv_iload_n hx hb d_Mo_put_115 rfl (lv_at hl 3 rfl) ?_
    refine lv_iload_n hx hb d_Mo_put_116 rfl (lv_at hl 2 rfl) ?_
    refine lv_aload_n hx hb d_Mo_put_117 rfl (lv_at hl 0 rfl) ?_
    obtain ⟨t12, et12, eh11⟩ := bS eh11
    refine r_getI C hS fl_Mo_110 et12 d_Mo_put_118 ?_
    obtain ⟨h13, eh13, eh11⟩ := bS eh11
    refine r_callVv C hS cv_Mo_124 (c_Mo_layAt l base D cI cZ h l0 l1 l3 l2 t12 eh13) (o_Mo_layAt eh13) (rest := []) rfl hl.1 rfl (Nat.le_of_ble_eq_true rfl) ⟨(Nat.le_of_ble_eq_true rfl), (Nat.le_of_ble_eq_true rfl)⟩ ⟨(Nat.le_of_ble_eq_true rfl), (Nat.le_of_ble_eq_true rfl)⟩ d_Mo_put_121 (fun H locs hS => ?_)
    obtain rfl := Option.some.inj eh11
    exact kJ124_7 _ _ _ hS (lv_sub hl [0, 1] rfl)
  · rw [if_neg c92_8] at eh11
    refine lv_aload_n hx hb d_Mo_put_95 rfl (lv_at hl 0 rfl) ?_
    obtain ⟨t14, et14, eh11⟩ := bS eh11
    refine r_getR C hS fl_Mo_13 et14 d_Mo_put_96 ?_
    refine lv_bipush (v := (12 : Int32)) hx hb d_Mo_put_99 (by decide) ?_
    refine lv_iload_n hx hb d_Mo_put_101 rfl (lv_at hl 1 rfl) ?_
    refine lv_imul hx hb d_Mo_put_102 ?_
    refine lv_iload_n hx hb d_Mo_put_103 rfl (lv_at hl 3 rfl) ?_
    refine lv_iadd hx hb d_Mo_put_104 ?_
    refine lv_aload_n hx hb d_Mo_put_105 rfl (lv_at hl 0 rfl) ?_
    obtain ⟨t15, et15, eh11⟩ := bS eh11
    refine r_getI C hS fl_Mo_110 et15 d_Mo_put_106 ?_
    obtain ⟨h16, eh16, eh11⟩ := bS eh11
    refine r_iast C hS eh16 d_Mo_put_109 (fun H locs hS => ?_)
    refine lv_goto (tgt := 124) hx hb d_Mo_put_110 (by decide) ?_
    obtain rfl := Option.some.inj eh11
    exact kJ124_7 _ _ _ hS (lv_sub hl [0, 1] rfl)
def f_Mo_put (h : Hp) (l0 : Nat) (l1 : Int32) : Option (Int32 × Hp) :=
  ck h 9 l0 (
    (f_Mo_isTree l1).bind fun t1 =>
    if t1 = (0 : Int32) then (
      some ((-1 : Int32), h)
    ) else (
      (f_Mo_fault h l0).bind fun q2 =>
      if q2.1 < (0 : Int32) then (
        (gI q2.2 9 l0 6).bind fun t3 =>
        (gI q2.2 9 l0 8).bind fun t4 =>
        (f_Mo_placeOf q2.2 l0 l1 (((10 : Int32) * t3) + t4)).bind fun t5 =>
        (gR q2.2 9 l0 2).bind fun t6 =>
        (gA q2.2 false t6 l1).bind fun t7 =>
        (
          if t7 ≤ t5 then (
            some (0 : Int32)
          ) else (
            (gR q2.2 9 l0 0).bind fun t9 =>
            (gA q2.2 false t9 (((12 : Int32) * l1) + t5)).bind fun t10 =>
            if t10 = (((10 : Int32) * t3) + t4) then (
              some (1 : Int32)
            ) else (
              some (0 : Int32)
            )
          )
        ).bind fun t8 =>
        if t8 = (0 : Int32) then (
          (gR q2.2 9 l0 2).bind fun t20 =>
          (gA q2.2 false t20 l1).bind fun t21 =>
          if t21 = (12 : Int32) then (
            some ((-4 : Int32), q2.2)
          ) else (
            f_Mo_put_90 q2.2 l0 l1 (((10 : Int32) * t3) + t4) t5 t8
          )
        ) else (
          f_Mo_put_90 q2.2 l0 l1 (((10 : Int32) * t3) + t4) t5 t8
        )
      ) else (
        some ((-5 : Int32), q2.2)
      )
    )
  )
theorem o_Mo_put {h : Hp} {l0 : Nat} {l1 : Int32} {r : (Int32 × Hp)} (hM : f_Mo_put h l0 l1 = some r) : isO h 9 l0 = true := by
  unfold f_Mo_put at hM
  exact (ck_some hM).1
set_option maxHeartbeats 4000000 in
set_option maxRecDepth 100000 in
theorem t_Mo_put {h : Hp} {l0 : Nat} {l1 : Int32} {r : (Int32 × Hp)} (C : Cx base D cI cZ b_Mo_put 5 "MovedFoldersModel" "put" (some .int) p s m args meth c) (hM : f_Mo_put h l0 l1 = some r) (H : Heap) (locs : List Loc) (ls : Array Slot) (hS : RS base D cI cZ s H locs h) (hl : lv_has ls 5 [(0, .ref (base + l0)), (1, .int l1)]) : Wg l base D cI cZ 3 69 0 0 r.2 (some (.int r.1)) p e s m args below meth c H locs 0 0 (F0 m 0 ls []) := by
  have hx := C.1
  have hb := C.2.1
  unfold f_Mo_put at hM
  replace hM := (ck_some hM).2
  refine lv_iload_n hx hb d_Mo_put_0 rfl (lv_at hl 1 rfl) ?_
  obtain ⟨t1, et1, hM⟩ := bS hM
  refine r_callSi (x := t1) C hS cs_Mo_69 (c_Mo_isTree l base D cI cZ h l1 et1) (rest := []) rfl hl.1 rfl (Nat.le_of_ble_eq_true rfl) ⟨(Nat.le_of_ble_eq_true rfl), (Nat.le_of_ble_eq_true rfl)⟩ ⟨(Nat.le_of_ble_eq_true rfl), (Nat.le_of_ble_eq_true rfl)⟩ d_Mo_put_1 (fun H locs hS => ?_)
  refine lv_if_ne (tgt := 9) hx hb d_Mo_put_4 (by decide) (fun c4_1 => ?_) (fun c4_1 => ?_)
  · rw [if_neg c4_1] at hM
    refine lv_aload_n hx hb d_Mo_put_9 rfl (lv_at hl 0 rfl) ?_
    obtain ⟨q2, eq2, hM⟩ := bS hM
    refine r_callVi (x := q2.1) C hS cv_Mo_117 (c_Mo_fault l base D cI cZ h l0 eq2) (o_Mo_fault eq2) (rest := []) rfl hl.1 rfl (Nat.le_of_ble_eq_true rfl) ⟨(Nat.le_of_ble_eq_true rfl), (Nat.le_of_ble_eq_true rfl)⟩ ⟨(Nat.le_of_ble_eq_true rfl), (Nat.le_of_ble_eq_true rfl)⟩ d_Mo_put_10 (fun H locs hS => ?_)
    refine lv_if_lt (tgt := 19) hx hb d_Mo_put_13 (by decide) (fun c13_2 => ?_) (fun c13_2 => ?_)
    · rw [if_pos c13_2] at hM
      refine lv_bipush (v := (10 : Int32)) hx hb d_Mo_put_19 (by decide) ?_
      refine lv_aload_n hx hb d_Mo_put_21 rfl (lv_at hl 0 rfl) ?_
      obtain ⟨t3, et3, hM⟩ := bS hM
      refine r_getI C hS fl_Mo_89 et3 d_Mo_put_22 ?_
      refine lv_imul hx hb d_Mo_put_25 ?_
      refine lv_aload_n hx hb d_Mo_put_26 rfl (lv_at hl 0 rfl) ?_
      obtain ⟨t4, et4, hM⟩ := bS hM
      refine r_getI C hS fl_Mo_100 et4 d_Mo_put_27 ?_
      refine lv_iadd hx hb d_Mo_put_30 ?_
      refine lv_istore_n (lv' := [(2, .int (((10 : Int32) * t3) + t4)), (0, .ref (base + l0)), (1, .int l1)]) hx hb d_Mo_put_31 rfl hl (by decide) rfl (fun ls hl => ?_)
      refine lv_aload_n hx hb d_Mo_put_32 rfl (lv_at hl 1 rfl) ?_
      refine lv_iload_n hx hb d_Mo_put_33 rfl (lv_at hl 2 rfl) ?_
      refine lv_iload_n hx hb d_Mo_put_34 rfl (lv_at hl 0 rfl) ?_
      obtain ⟨t5, et5, hM⟩ := bS hM
      refine r_callVi (x := t5) C hS cv_Mo_121 (c_Mo_placeOf l base D cI cZ q2.2 l0 l1 (((10 : Int32) * t3) + t4) et5) (o_Mo_placeOf et5) (rest := []) rfl hl.1 rfl (Nat.le_of_ble_eq_true rfl) ⟨(Nat.le_of_ble_eq_true rfl), (Nat.le_of_ble_eq_true rfl)⟩ ⟨(Nat.le_of_ble_eq_true rfl), (Nat.le_of_ble_eq_true rfl)⟩ d_Mo_put_35 (fun H locs hS => ?_)
      refine lv_istore_n (lv' := [(3, .int t5), (2, .int (((10 : Int32) * t3) + t4)), (0, .ref (base + l0)), (1, .int l1)]) hx hb d_Mo_put_38 rfl hl (by decide) rfl (fun ls hl => ?_)
      refine lv_iload_n hx hb d_Mo_put_39 rfl (lv_at hl 0 rfl) ?_
      refine lv_aload_n hx hb d_Mo_put_40 rfl (lv_at hl 2 rfl) ?_
      obtain ⟨t6, et6, hM⟩ := bS hM
      refine r_getR C hS fl_Mo_16 et6 d_Mo_put_41 ?_
      refine lv_iload_n hx hb d_Mo_put_44 rfl (lv_at hl 3 rfl) ?_
      obtain ⟨t7, et7, hM⟩ := bS hM
      refine r_iald C hS et7 d_Mo_put_45 ?_
      obtain ⟨t8, et8, hM⟩ := bS hM
      have kJ69_3 : ∀ (H : Heap) (locs : List Loc) (ls : Array Slot), RS base D cI cZ s H locs q2.2 → lv_has ls 5 [(0, .ref (base + l0)), (1, .int l1), (2, .int (((10 : Int32) * t3) + t4)), (3, .int t5)] → Wg l base D cI cZ 3 69 0 0 r.2 (some (.int r.1)) p e s m args below meth c H locs 0 0 (F0 m 69 ls [.int t8]) := by
        intro H locs ls hS hl
        refine lv_istore (lv' := [(4, .int t8), (0, .ref (base + l0)), (1, .int l1), (2, .int (((10 : Int32) * t3) + t4)), (3, .int t5)]) hx hb d_Mo_put_69 hl (by decide) rfl (fun ls hl => ?_)
        refine lv_iload hx hb d_Mo_put_71 (lv_at hl 0 rfl) ?_
        refine lv_if_ne (tgt := 90) hx hb d_Mo_put_73 (by decide) (fun c73_6 => ?_) (fun c73_6 => ?_)
        · rw [if_neg c73_6] at hM
          exact t_Mo_put_90  C  hM _ _ _ hS (lv_sub hl [1, 2, 3, 4, 0] rfl)
        · rw [if_pos c73_6] at hM
          refine lv_aload_n hx hb d_Mo_put_76 rfl (lv_at hl 1 rfl) ?_
          obtain ⟨t20, et20, hM⟩ := bS hM
          refine r_getR C hS fl_Mo_16 et20 d_Mo_put_77 ?_
          refine lv_iload_n hx hb d_Mo_put_80 rfl (lv_at hl 2 rfl) ?_
          obtain ⟨t21, et21, hM⟩ := bS hM
          refine r_iald C hS et21 d_Mo_put_81 ?_
          refine lv_bipush (v := (12 : Int32)) hx hb d_Mo_put_82 (by decide) ?_
          refine lv_icmp_ne (tgt := 90) hx hb d_Mo_put_84 (by decide) (fun c84_9 => ?_) (fun c84_9 => ?_)
          · rw [if_neg c84_9] at hM
            exact t_Mo_put_90  C  hM _ _ _ hS (lv_sub hl [1, 2, 3, 4, 0] rfl)
          · rw [if_pos c84_9] at hM
            refine lv_bipush (v := (-4 : Int32)) hx hb d_Mo_put_87 (by decide) ?_
            obtain rfl := Option.some.inj hM
            exact r_iret C hS d_Mo_put_89
      refine lv_icmp_ge (tgt := 68) hx hb d_Mo_put_46 (by decide) (fun c46_4 => ?_) (fun c46_4 => ?_)
      · rw [if_pos c46_4] at et8
        refine lv_iconst (v := (0 : Int32)) hx hb d_Mo_put_68 (by decide) ?_
        obtain rfl := Option.some.inj et8
        exact kJ69_3 _ _ _ hS (lv_sub hl [2, 3, 1, 0] rfl)
      · rw [if_neg c46_4] at et8
        refine lv_aload_n hx hb d_Mo_put_49 rfl (lv_at hl 2 rfl) ?_
        obtain ⟨t9, et9, et8⟩ := bS et8
        refine r_getR C hS fl_Mo_7 et9 d_Mo_put_50 ?_
        refine lv_bipush (v := (12 : Int32)) hx hb d_Mo_put_53 (by decide) ?_
        refine lv_iload_n hx hb d_Mo_put_55 rfl (lv_at hl 3 rfl) ?_
        refine lv_imul hx hb d_Mo_put_56 ?_
        refine lv_iload_n hx hb d_Mo_put_57 rfl (lv_at hl 0 rfl) ?_
        refine lv_iadd hx hb d_Mo_put_58 ?_
        obtain ⟨t10, et10, et8⟩ := bS et8
        refine r_iald C hS et10 d_Mo_put_59 ?_
        refine lv_iload_n hx hb d_Mo_put_60 rfl (lv_at hl 1 rfl) ?_
        refine lv_icmp_ne (tgt := 68) hx hb d_Mo_put_61 (by decide) (fun c61_5 => ?_) (fun c61_5 => ?_)
        · rw [if_neg c61_5] at et8
          refine lv_iconst (v := (0 : Int32)) hx hb d_Mo_put_68 (by decide) ?_
          obtain rfl := Option.some.inj et8
          exact kJ69_3 _ _ _ hS (lv_sub hl [2, 3, 1, 0] rfl)
        · rw [if_pos c61_5] at et8
          refine lv_iconst (v := (1 : Int32)) hx hb d_Mo_put_64 (by decide) ?_
          refine lv_goto (tgt := 69) hx hb d_Mo_put_65 (by decide) ?_
          obtain rfl := Option.some.inj et8
          exact kJ69_3 _ _ _ hS (lv_sub hl [2, 3, 1, 0] rfl)
    · rw [if_neg c13_2] at hM
      refine lv_bipush (v := (-5 : Int32)) hx hb d_Mo_put_16 (by decide) ?_
      obtain rfl := Option.some.inj hM
      exact r_iret C hS d_Mo_put_18
  · rw [if_pos c4_1] at hM
    refine lv_iconst (v := (-1 : Int32)) hx hb d_Mo_put_7 (by decide) ?_
    obtain rfl := Option.some.inj hM
    exact r_iret C hS d_Mo_put_8
theorem c_Mo_put (l : Launch) (base : Nat) (D : va_G) (cI cZ : ClassId) (h : Hp) (l0 : Nat) (l1 : Int32) {r : (Int32 × Hp)} (hM : f_Mo_put h l0 l1 = some r) : Ct l base D cI cZ y_Mo_put b_Mo_put 5 (some .int) 3 69 0 0 h [.ref (base + l0), .int l1] r.2 (some (.int r.1)) :=
  ct_of (by decide) (Nat.le_of_ble_eq_true rfl) (fun p e s m below meth c ls C hS hl => t_Mo_put C hM _ _ _ hS hl)
theorem d_Mo_drop_0 : decode b_Mo_drop 0 = .ok (.aload_n 0, 1) := by decide +kernel
theorem d_Mo_drop_1 : decode b_Mo_drop 1 = .ok (.iload_n 1, 1) := by decide +kernel
theorem d_Mo_drop_2 : decode b_Mo_drop 2 = .ok (.iload_n 2, 1) := by decide +kernel
theorem d_Mo_drop_3 : decode b_Mo_drop 3 = .ok (.invokevirtual 128, 3) := by decide +kernel
theorem d_Mo_drop_6 : decode b_Mo_drop 6 = .ok (.ifCond .ne 5, 3) := by decide +kernel
theorem d_Mo_drop_9 : decode b_Mo_drop 9 = .ok (.iconst (-1), 1) := by decide +kernel
theorem d_Mo_drop_10 : decode b_Mo_drop 10 = .ok (.ireturn, 1) := by decide +kernel
theorem d_Mo_drop_11 : decode b_Mo_drop 11 = .ok (.aload_n 0, 1) := by decide +kernel
theorem d_Mo_drop_12 : decode b_Mo_drop 12 = .ok (.getfield 16, 3) := by decide +kernel
theorem d_Mo_drop_15 : decode b_Mo_drop 15 = .ok (.iload_n 1, 1) := by decide +kernel
theorem d_Mo_drop_16 : decode b_Mo_drop 16 = .ok (.dup2, 1) := by decide +kernel
theorem d_Mo_drop_17 : decode b_Mo_drop 17 = .ok (.iaload, 1) := by decide +kernel
theorem d_Mo_drop_18 : decode b_Mo_drop 18 = .ok (.iconst 1, 1) := by decide +kernel
theorem d_Mo_drop_19 : decode b_Mo_drop 19 = .ok (.isub, 1) := by decide +kernel
theorem d_Mo_drop_20 : decode b_Mo_drop 20 = .ok (.iastore, 1) := by decide +kernel
theorem d_Mo_drop_21 : decode b_Mo_drop 21 = .ok (.iload_n 2, 1) := by decide +kernel
theorem d_Mo_drop_22 : decode b_Mo_drop 22 = .ok (.istore_n 3, 1) := by decide +kernel
theorem d_Mo_drop_23 : decode b_Mo_drop 23 = .ok (.iload_n 3, 1) := by decide +kernel
theorem d_Mo_drop_24 : decode b_Mo_drop 24 = .ok (.aload_n 0, 1) := by decide +kernel
theorem d_Mo_drop_25 : decode b_Mo_drop 25 = .ok (.getfield 16, 3) := by decide +kernel
theorem d_Mo_drop_28 : decode b_Mo_drop 28 = .ok (.iload_n 1, 1) := by decide +kernel
theorem d_Mo_drop_29 : decode b_Mo_drop 29 = .ok (.iaload, 1) := by decide +kernel
theorem d_Mo_drop_30 : decode b_Mo_drop 30 = .ok (.if_icmp .ge 57, 3) := by decide +kernel
theorem d_Mo_drop_33 : decode b_Mo_drop 33 = .ok (.aload_n 0, 1) := by decide +kernel
theorem d_Mo_drop_34 : decode b_Mo_drop 34 = .ok (.getfield 7, 3) := by decide +kernel
theorem d_Mo_drop_37 : decode b_Mo_drop 37 = .ok (.bipush 12, 2) := by decide +kernel
theorem d_Mo_drop_39 : decode b_Mo_drop 39 = .ok (.iload_n 1, 1) := by decide +kernel
theorem d_Mo_drop_40 : decode b_Mo_drop 40 = .ok (.imul, 1) := by decide +kernel
theorem d_Mo_drop_41 : decode b_Mo_drop 41 = .ok (.iload_n 3, 1) := by decide +kernel
theorem d_Mo_drop_42 : decode b_Mo_drop 42 = .ok (.iadd, 1) := by decide +kernel
theorem d_Mo_drop_43 : decode b_Mo_drop 43 = .ok (.aload_n 0, 1) := by decide +kernel
theorem d_Mo_drop_44 : decode b_Mo_drop 44 = .ok (.getfield 7, 3) := by decide +kernel
theorem d_Mo_drop_47 : decode b_Mo_drop 47 = .ok (.bipush 12, 2) := by decide +kernel
theorem d_Mo_drop_49 : decode b_Mo_drop 49 = .ok (.iload_n 1, 1) := by decide +kernel
theorem d_Mo_drop_50 : decode b_Mo_drop 50 = .ok (.imul, 1) := by decide +kernel
theorem d_Mo_drop_51 : decode b_Mo_drop 51 = .ok (.iload_n 3, 1) := by decide +kernel
theorem d_Mo_drop_52 : decode b_Mo_drop 52 = .ok (.iadd, 1) := by decide +kernel
theorem d_Mo_drop_53 : decode b_Mo_drop 53 = .ok (.iconst 1, 1) := by decide +kernel
theorem d_Mo_drop_54 : decode b_Mo_drop 54 = .ok (.iadd, 1) := by decide +kernel
theorem d_Mo_drop_55 : decode b_Mo_drop 55 = .ok (.iaload, 1) := by decide +kernel
theorem d_Mo_drop_56 : decode b_Mo_drop 56 = .ok (.iastore, 1) := by decide +kernel
theorem d_Mo_drop_57 : decode b_Mo_drop 57 = .ok (.aload_n 0, 1) := by decide +kernel
theorem d_Mo_drop_58 : decode b_Mo_drop 58 = .ok (.getfield 13, 3) := by decide +kernel
theorem d_Mo_drop_61 : decode b_Mo_drop 61 = .ok (.bipush 12, 2) := by decide +kernel
theorem d_Mo_drop_63 : decode b_Mo_drop 63 = .ok (.iload_n 1, 1) := by decide +kernel
theorem d_Mo_drop_64 : decode b_Mo_drop 64 = .ok (.imul, 1) := by decide +kernel
theorem d_Mo_drop_65 : decode b_Mo_drop 65 = .ok (.iload_n 3, 1) := by decide +kernel
theorem d_Mo_drop_66 : decode b_Mo_drop 66 = .ok (.iadd, 1) := by decide +kernel
theorem d_Mo_drop_67 : decode b_Mo_drop 67 = .ok (.aload_n 0, 1) := by decide +kernel
theorem d_Mo_drop_68 : decode b_Mo_drop 68 = .ok (.getfield 13, 3) := by decide +kernel
theorem d_Mo_drop_71 : decode b_Mo_drop 71 = .ok (.bipush 12, 2) := by decide +kernel
theorem d_Mo_drop_73 : decode b_Mo_drop 73 = .ok (.iload_n 1, 1) := by decide +kernel
theorem d_Mo_drop_74 : decode b_Mo_drop 74 = .ok (.imul, 1) := by decide +kernel
theorem d_Mo_drop_75 : decode b_Mo_drop 75 = .ok (.iload_n 3, 1) := by decide +kernel
theorem d_Mo_drop_76 : decode b_Mo_drop 76 = .ok (.iadd, 1) := by decide +kernel
theorem d_Mo_drop_77 : decode b_Mo_drop 77 = .ok (.iconst 1, 1) := by decide +kernel
theorem d_Mo_drop_78 : decode b_Mo_drop 78 = .ok (.iadd, 1) := by decide +kernel
theorem d_Mo_drop_79 : decode b_Mo_drop 79 = .ok (.iaload, 1) := by decide +kernel
theorem d_Mo_drop_80 : decode b_Mo_drop 80 = .ok (.iastore, 1) := by decide +kernel
theorem d_Mo_drop_81 : decode b_Mo_drop 81 = .ok (.iinc 3 1, 3) := by decide +kernel
theorem d_Mo_drop_84 : decode b_Mo_drop 84 = .ok (.goto (-61), 3) := by decide +kernel
theorem d_Mo_drop_87 : decode b_Mo_drop 87 = .ok (.aload_n 0, 1) := by decide +kernel
theorem d_Mo_drop_88 : decode b_Mo_drop 88 = .ok (.getfield 16, 3) := by decide +kernel
theorem d_Mo_drop_91 : decode b_Mo_drop 91 = .ok (.iload_n 1, 1) := by decide +kernel
theorem d_Mo_drop_92 : decode b_Mo_drop 92 = .ok (.iaload, 1) := by decide +kernel
theorem d_Mo_drop_93 : decode b_Mo_drop 93 = .ok (.ireturn, 1) := by decide +kernel
def f_Mo_drop_23 (l0 : Nat) (l1 : Int32) : Nat → Int32 → Hp → Option (Int32 × Hp)
  | 0, _, _ => none
  | n + 1, l3, h =>
    (gR h 9 l0 2).bind fun t5 =>
    (gA h false t5 l1).bind fun t6 =>
    if t6 ≤ l3 then (
      (gR h 9 l0 2).bind fun t7 =>
      (gA h false t7 l1).bind fun t8 =>
      some (t8, h)
    ) else (
      (gR h 9 l0 0).bind fun t9 =>
      (gR h 9 l0 0).bind fun t10 =>
      (gA h false t10 ((((12 : Int32) * l1) + l3) + (1 : Int32))).bind fun t11 =>
      (sA h t9 (((12 : Int32) * l1) + l3) t11).bind fun h12 =>
      (gR h12 9 l0 1).bind fun t13 =>
      (gR h12 9 l0 1).bind fun t14 =>
      (gA h12 false t14 ((((12 : Int32) * l1) + l3) + (1 : Int32))).bind fun t15 =>
      (sA h12 t13 (((12 : Int32) * l1) + l3) t15).bind fun h16 =>
      f_Mo_drop_23 l0 l1 n (l3 + (1 : Int32)) h16
    )
set_option maxHeartbeats 4000000 in
set_option maxRecDepth 100000 in
theorem t_Mo_drop_23 {l0 : Nat} {l1 : Int32} {r : (Int32 × Hp)} (C : Cx base D cI cZ b_Mo_drop 4 "MovedFoldersModel" "drop" (some .int) p s m args meth c)  : ∀ (n : Nat) (l3 : Int32) (h : Hp), f_Mo_drop_23 l0 l1 n l3 h = some r → ∀ (H : Heap) (locs : List Loc) (ls : Array Slot), RS base D cI cZ s H locs h → lv_has ls 4 [(0, .ref (base + l0)), (1, .int l1), (3, .int l3)] → Wg l base D cI cZ 3 67 0 0 r.2 (some (.int r.1)) p e s m args below meth c H locs 0 0 (F0 m 23 ls []) := by
  have hx := C.1
  have hb := C.2.1
  intro n
  induction n with
  | zero =>
    intro l3 h hM
    rw [f_Mo_drop_23] at hM
    cases hM
  | succ n ih =>
    intro l3 h hM H locs ls hS hl
    rw [f_Mo_drop_23] at hM
    refine lv_iload_n hx hb d_Mo_drop_23 rfl (lv_at hl 2 rfl) ?_
    refine lv_aload_n hx hb d_Mo_drop_24 rfl (lv_at hl 0 rfl) ?_
    obtain ⟨t5, et5, hM⟩ := bS hM
    refine r_getR C hS fl_Mo_16 et5 d_Mo_drop_25 ?_
    refine lv_iload_n hx hb d_Mo_drop_28 rfl (lv_at hl 1 rfl) ?_
    obtain ⟨t6, et6, hM⟩ := bS hM
    refine r_iald C hS et6 d_Mo_drop_29 ?_
    refine lv_icmp_ge (tgt := 87) hx hb d_Mo_drop_30 (by decide) (fun c30_2 => ?_) (fun c30_2 => ?_)
    · rw [if_pos c30_2] at hM
      refine lv_aload_n hx hb d_Mo_drop_87 rfl (lv_at hl 0 rfl) ?_
      obtain ⟨t7, et7, hM⟩ := bS hM
      refine r_getR C hS fl_Mo_16 et7 d_Mo_drop_88 ?_
      refine lv_iload_n hx hb d_Mo_drop_91 rfl (lv_at hl 1 rfl) ?_
      obtain ⟨t8, et8, hM⟩ := bS hM
      refine r_iald C hS et8 d_Mo_drop_92 ?_
      obtain rfl := Option.some.inj hM
      exact r_iret C hS d_Mo_drop_93
    · rw [if_neg c30_2] at hM
      refine lv_aload_n hx hb d_Mo_drop_33 rfl (lv_at hl 0 rfl) ?_
      obtain ⟨t9, et9, hM⟩ := bS hM
      refine r_getR C hS fl_Mo_7 et9 d_Mo_drop_34 ?_
      refine lv_bipush (v := (12 : Int32)) hx hb d_Mo_drop_37 (by decide) ?_
      refine lv_iload_n hx hb d_Mo_drop_39 rfl (lv_at hl 1 rfl) ?_
      refine lv_imul hx hb d_Mo_drop_40 ?_
      refine lv_iload_n hx hb d_Mo_drop_41 rfl (lv_at hl 2 rfl) ?_
      refine lv_iadd hx hb d_Mo_drop_42 ?_
      refine lv_aload_n hx hb d_Mo_drop_43 rfl (lv_at hl 0 rfl) ?_
      obtain ⟨t10, et10, hM⟩ := bS hM
      refine r_getR C hS fl_Mo_7 et10 d_Mo_drop_44 ?_
      refine lv_bipush (v := (12 : Int32)) hx hb d_Mo_drop_47 (by decide) ?_
      refine lv_iload_n hx hb d_Mo_drop_49 rfl (lv_at hl 1 rfl) ?_
      refine lv_imul hx hb d_Mo_drop_50 ?_
      refine lv_iload_n hx hb d_Mo_drop_51 rfl (lv_at hl 2 rfl) ?_
      refine lv_iadd hx hb d_Mo_drop_52 ?_
      refine lv_iconst (v := (1 : Int32)) hx hb d_Mo_drop_53 (by decide) ?_
      refine lv_iadd hx hb d_Mo_drop_54 ?_
      obtain ⟨t11, et11, hM⟩ := bS hM
      refine r_iald C hS et11 d_Mo_drop_55 ?_
      obtain ⟨h12, eh12, hM⟩ := bS hM
      refine r_iast C hS eh12 d_Mo_drop_56 (fun H locs hS => ?_)
      refine lv_aload_n hx hb d_Mo_drop_57 rfl (lv_at hl 0 rfl) ?_
      obtain ⟨t13, et13, hM⟩ := bS hM
      refine r_getR C hS fl_Mo_13 et13 d_Mo_drop_58 ?_
      refine lv_bipush (v := (12 : Int32)) hx hb d_Mo_drop_61 (by decide) ?_
      refine lv_iload_n hx hb d_Mo_drop_63 rfl (lv_at hl 1 rfl) ?_
      refine lv_imul hx hb d_Mo_drop_64 ?_
      refine lv_iload_n hx hb d_Mo_drop_65 rfl (lv_at hl 2 rfl) ?_
      refine lv_iadd hx hb d_Mo_drop_66 ?_
      refine lv_aload_n hx hb d_Mo_drop_67 rfl (lv_at hl 0 rfl) ?_
      obtain ⟨t14, et14, hM⟩ := bS hM
      refine r_getR C hS fl_Mo_13 et14 d_Mo_drop_68 ?_
      refine lv_bipush (v := (12 : Int32)) hx hb d_Mo_drop_71 (by decide) ?_
      refine lv_iload_n hx hb d_Mo_drop_73 rfl (lv_at hl 1 rfl) ?_
      refine lv_imul hx hb d_Mo_drop_74 ?_
      refine lv_iload_n hx hb d_Mo_drop_75 rfl (lv_at hl 2 rfl) ?_
      refine lv_iadd hx hb d_Mo_drop_76 ?_
      refine lv_iconst (v := (1 : Int32)) hx hb d_Mo_drop_77 (by decide) ?_
      refine lv_iadd hx hb d_Mo_drop_78 ?_
      obtain ⟨t15, et15, hM⟩ := bS hM
      refine r_iald C hS et15 d_Mo_drop_79 ?_
      obtain ⟨h16, eh16, hM⟩ := bS hM
      refine r_iast C hS eh16 d_Mo_drop_80 (fun H locs hS => ?_)
      refine lv_iinc (v := (l3 + (1 : Int32))) (lv' := [(3, .int (l3 + (1 : Int32))), (0, .ref (base + l0)), (1, .int l1)]) hx hb d_Mo_drop_81 hl (k := 2) rfl (by rw [oi_1]) (by decide) rfl (fun ls hl => ?_)
      refine lv_goto (tgt := 23) hx hb d_Mo_drop_84 (by decide) ?_
      exact ih (l3 + (1 : Int32)) h16 hM _ _ _ hS (lv_sub hl [1, 2, 0] rfl)
def f_Mo_drop (h : Hp) (l0 : Nat) (l1 : Int32) (l2 : Int32) : Option (Int32 × Hp) :=
  ck h 9 l0 (
    (f_Mo_isFile h l0 l1 l2).bind fun t1 =>
    if t1 = (0 : Int32) then (
      some ((-1 : Int32), h)
    ) else (
      (gR h 9 l0 2).bind fun t2 =>
      (gA h false t2 l1).bind fun t3 =>
      (sA h t2 l1 (t3 - (1 : Int32))).bind fun h4 =>
      f_Mo_drop_23 l0 l1 FU l2 h4
    )
  )
theorem o_Mo_drop {h : Hp} {l0 : Nat} {l1 : Int32} {l2 : Int32} {r : (Int32 × Hp)} (hM : f_Mo_drop h l0 l1 l2 = some r) : isO h 9 l0 = true := by
  unfold f_Mo_drop at hM
  exact (ck_some hM).1
set_option maxHeartbeats 4000000 in
set_option maxRecDepth 100000 in
theorem t_Mo_drop {h : Hp} {l0 : Nat} {l1 : Int32} {l2 : Int32} {r : (Int32 × Hp)} (C : Cx base D cI cZ b_Mo_drop 4 "MovedFoldersModel" "drop" (some .int) p s m args meth c) (hM : f_Mo_drop h l0 l1 l2 = some r) (H : Heap) (locs : List Loc) (ls : Array Slot) (hS : RS base D cI cZ s H locs h) (hl : lv_has ls 4 [(0, .ref (base + l0)), (1, .int l1), (2, .int l2)]) : Wg l base D cI cZ 3 67 0 0 r.2 (some (.int r.1)) p e s m args below meth c H locs 0 0 (F0 m 0 ls []) := by
  have hx := C.1
  have hb := C.2.1
  unfold f_Mo_drop at hM
  replace hM := (ck_some hM).2
  refine lv_aload_n hx hb d_Mo_drop_0 rfl (lv_at hl 0 rfl) ?_
  refine lv_iload_n hx hb d_Mo_drop_1 rfl (lv_at hl 1 rfl) ?_
  refine lv_iload_n hx hb d_Mo_drop_2 rfl (lv_at hl 2 rfl) ?_
  obtain ⟨t1, et1, hM⟩ := bS hM
  refine r_callVi (x := t1) C hS cv_Mo_128 (c_Mo_isFile l base D cI cZ h l0 l1 l2 et1) (o_Mo_isFile et1) (rest := []) rfl hl.1 rfl (Nat.le_of_ble_eq_true rfl) ⟨(Nat.le_of_ble_eq_true rfl), (Nat.le_of_ble_eq_true rfl)⟩ ⟨(Nat.le_of_ble_eq_true rfl), (Nat.le_of_ble_eq_true rfl)⟩ d_Mo_drop_3 (fun H locs hS => ?_)
  refine lv_if_ne (tgt := 11) hx hb d_Mo_drop_6 (by decide) (fun c6_1 => ?_) (fun c6_1 => ?_)
  · rw [if_neg c6_1] at hM
    refine lv_aload_n hx hb d_Mo_drop_11 rfl (lv_at hl 0 rfl) ?_
    obtain ⟨t2, et2, hM⟩ := bS hM
    refine r_getR C hS fl_Mo_16 et2 d_Mo_drop_12 ?_
    refine lv_iload_n hx hb d_Mo_drop_15 rfl (lv_at hl 1 rfl) ?_
    refine lv_dup2_11 hx hb d_Mo_drop_16 rfl rfl ?_
    obtain ⟨t3, et3, hM⟩ := bS hM
    refine r_iald C hS et3 d_Mo_drop_17 ?_
    refine lv_iconst (v := (1 : Int32)) hx hb d_Mo_drop_18 (by decide) ?_
    refine lv_isub hx hb d_Mo_drop_19 ?_
    obtain ⟨h4, eh4, hM⟩ := bS hM
    refine r_iast C hS eh4 d_Mo_drop_20 (fun H locs hS => ?_)
    refine lv_iload_n hx hb d_Mo_drop_21 rfl (lv_at hl 2 rfl) ?_
    refine lv_istore_n (lv' := [(3, .int l2), (0, .ref (base + l0)), (1, .int l1), (2, .int l2)]) hx hb d_Mo_drop_22 rfl hl (by decide) rfl (fun ls hl => ?_)
    exact t_Mo_drop_23  C  FU l2 h4 hM _ _ _ hS (lv_sub hl [1, 2, 0] rfl)
  · rw [if_pos c6_1] at hM
    refine lv_iconst (v := (-1 : Int32)) hx hb d_Mo_drop_9 (by decide) ?_
    obtain rfl := Option.some.inj hM
    exact r_iret C hS d_Mo_drop_10
theorem c_Mo_drop (l : Launch) (base : Nat) (D : va_G) (cI cZ : ClassId) (h : Hp) (l0 : Nat) (l1 : Int32) (l2 : Int32) {r : (Int32 × Hp)} (hM : f_Mo_drop h l0 l1 l2 = some r) : Ct l base D cI cZ y_Mo_drop b_Mo_drop 4 (some .int) 3 67 0 0 h [.ref (base + l0), .int l1, .int l2] r.2 (some (.int r.1)) :=
  ct_of (by decide) (Nat.le_of_ble_eq_true rfl) (fun p e s m below meth c ls C hS hl => t_Mo_drop C hM _ _ _ hS hl)
end MM6
