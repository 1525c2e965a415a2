section MM4
variable {l : Launch} {base : Nat} {D : va_G} {cI cZ : ClassId} {p : Program} {e : Env} {s : State} {m : MethodId} {args : Array Value} {below : List Frame} {meth : Method} {c : Code}
theorem d_Pairs_rankOf_0 : decode b_Pairs_rankOf 0 = .ok (.iload_n 0, 1) := by decide +kernel
theorem d_Pairs_rankOf_1 : decode b_Pairs_rankOf 1 = .ok (.iconst 1, 1) := by decide +kernel
theorem d_Pairs_rankOf_2 : decode b_Pairs_rankOf 2 = .ok (.if_icmp .eq 8, 3) := by decide +kernel
theorem d_Pairs_rankOf_5 : decode b_Pairs_rankOf 5 = .ok (.iload_n 1, 1) := by decide +kernel
theorem d_Pairs_rankOf_6 : decode b_Pairs_rankOf 6 = .ok (.iconst 1, 1) := by decide +kernel
theorem d_Pairs_rankOf_7 : decode b_Pairs_rankOf 7 = .ok (.if_icmp .ne 5, 3) := by decide +kernel
theorem d_Pairs_rankOf_10 : decode b_Pairs_rankOf 10 = .ok (.iconst 0, 1) := by decide +kernel
theorem d_Pairs_rankOf_11 : decode b_Pairs_rankOf 11 = .ok (.ireturn, 1) := by decide +kernel
theorem d_Pairs_rankOf_12 : decode b_Pairs_rankOf 12 = .ok (.iload_n 0, 1) := by decide +kernel
theorem d_Pairs_rankOf_13 : decode b_Pairs_rankOf 13 = .ok (.iload_n 1, 1) := by decide +kernel
theorem d_Pairs_rankOf_14 : decode b_Pairs_rankOf 14 = .ok (.if_icmp .ne 6, 3) := by decide +kernel
theorem d_Pairs_rankOf_17 : decode b_Pairs_rankOf 17 = .ok (.bipush 101, 2) := by decide +kernel
theorem d_Pairs_rankOf_19 : decode b_Pairs_rankOf 19 = .ok (.ireturn, 1) := by decide +kernel
theorem d_Pairs_rankOf_20 : decode b_Pairs_rankOf 20 = .ok (.iload_n 0, 1) := by decide +kernel
theorem d_Pairs_rankOf_21 : decode b_Pairs_rankOf 21 = .ok (.iload_n 1, 1) := by decide +kernel
theorem d_Pairs_rankOf_22 : decode b_Pairs_rankOf 22 = .ok (.invokestatic 72, 3) := by decide +kernel
theorem d_Pairs_rankOf_25 : decode b_Pairs_rankOf 25 = .ok (.istore_n 3, 1) := by decide +kernel
theorem d_Pairs_rankOf_26 : decode b_Pairs_rankOf 26 = .ok (.iload_n 3, 1) := by decide +kernel
theorem d_Pairs_rankOf_27 : decode b_Pairs_rankOf 27 = .ok (.iload_n 2, 1) := by decide +kernel
theorem d_Pairs_rankOf_28 : decode b_Pairs_rankOf 28 = .ok (.if_icmp .lt 7, 3) := by decide +kernel
theorem d_Pairs_rankOf_31 : decode b_Pairs_rankOf 31 = .ok (.iload_n 3, 1) := by decide +kernel
theorem d_Pairs_rankOf_32 : decode b_Pairs_rankOf 32 = .ok (.goto 4, 3) := by decide +kernel
theorem d_Pairs_rankOf_35 : decode b_Pairs_rankOf 35 = .ok (.iconst 0, 1) := by decide +kernel
theorem d_Pairs_rankOf_36 : decode b_Pairs_rankOf 36 = .ok (.ireturn, 1) := by decide +kernel
def f_Pairs_rankOf (l0 : Int32) (l1 : Int32) (l2 : Int32) : Option Int32 :=
  if l0 = (1 : Int32) then (
    some (0 : Int32)
  ) else (
    if l1 = (1 : Int32) then (
      some (0 : Int32)
    ) else (
      if l0 = l1 then (
        some (101 : Int32)
      ) else (
        (f_Pieces_likeness l0 l1).bind fun t1 =>
        some (if t1 < l2 then ((0 : Int32)) else (t1))
      )
    )
  )
set_option maxHeartbeats 4000000 in
set_option maxRecDepth 100000 in
theorem t_Pairs_rankOf {h : Hp} {l0 : Int32} {l1 : Int32} {l2 : Int32} {r : Int32} (C : Cx base D cI cZ b_Pairs_rankOf 4 "MovedFolders$Pairs" "rankOf" (some .int) p s m args meth c) (hM : f_Pairs_rankOf l0 l1 l2 = some r) (H : Heap) (locs : List Loc) (ls : Array Slot) (hS : RS base D cI cZ s H locs h) (hl : lv_has ls 4 [(0, .int l0), (1, .int l1), (2, .int l2)]) : Wg l base D cI cZ 3 74 0 0 h (some (.int r)) p e s m args below meth c H locs 0 0 (F0 m 0 ls []) := by
  have hx := C.1
  have hb := C.2.1
  unfold f_Pairs_rankOf at hM
  refine lv_iload_n hx hb d_Pairs_rankOf_0 rfl (lv_at hl 0 rfl) ?_
  refine lv_iconst (v := (1 : Int32)) hx hb d_Pairs_rankOf_1 (by decide) ?_
  refine lv_icmp_eq (tgt := 10) hx hb d_Pairs_rankOf_2 (by decide) (fun c2_1 => ?_) (fun c2_1 => ?_)
  · rw [if_pos c2_1] at hM
    refine lv_iconst (v := (0 : Int32)) hx hb d_Pairs_rankOf_10 (by decide) ?_
    obtain rfl := Option.some.inj hM
    exact r_iret C hS d_Pairs_rankOf_11
  · rw [if_neg c2_1] at hM
    refine lv_iload_n hx hb d_Pairs_rankOf_5 rfl (lv_at hl 1 rfl) ?_
    refine lv_iconst (v := (1 : Int32)) hx hb d_Pairs_rankOf_6 (by decide) ?_
    refine lv_icmp_ne (tgt := 12) hx hb d_Pairs_rankOf_7 (by decide) (fun c7_2 => ?_) (fun c7_2 => ?_)
    · rw [if_neg c7_2] at hM
      refine lv_iload_n hx hb d_Pairs_rankOf_12 rfl (lv_at hl 0 rfl) ?_
      refine lv_iload_n hx hb d_Pairs_rankOf_13 rfl (lv_at hl 1 rfl) ?_
      refine lv_icmp_ne (tgt := 20) hx hb d_Pairs_rankOf_14 (by decide) (fun c14_3 => ?_) (fun c14_3 => ?_)
      · rw [if_neg c14_3] at hM
        refine lv_iload_n hx hb d_Pairs_rankOf_20 rfl (lv_at hl 0 rfl) ?_
        refine lv_iload_n hx hb d_Pairs_rankOf_21 rfl (lv_at hl 1 rfl) ?_
        obtain ⟨t1, et1, hM⟩ := bS hM
        refine r_callSi (x := t1) C hS cs_Pairs_72 (c_Pieces_likeness l base D cI cZ h l0 l1 et1) (rest := []) rfl hl.1 rfl (Nat.le_of_ble_eq_true rfl) ⟨(Nat.le_of_ble_eq_true rfl), (Nat.le_of_ble_eq_true rfl)⟩ ⟨(Nat.le_of_ble_eq_true rfl), (Nat.le_of_ble_eq_true rfl)⟩ d_Pairs_rankOf_22 (fun H locs hS => ?_)
        refine lv_istore_n (lv' := [(3, .int t1), (0, .int l0), (1, .int l1), (2, .int l2)]) hx hb d_Pairs_rankOf_25 rfl hl (by decide) rfl (fun ls hl => ?_)
        refine lv_iload_n hx hb d_Pairs_rankOf_26 rfl (lv_at hl 0 rfl) ?_
        refine lv_iload_n hx hb d_Pairs_rankOf_27 rfl (lv_at hl 3 rfl) ?_
        have kJ36_4 : ∀ (H : Heap) (locs : List Loc) (ls : Array Slot), RS base D cI cZ s H locs h → lv_has ls 4 [] → Wg l base D cI cZ 3 74 0 0 h (some (.int r)) p e s m args below meth c H locs 0 0 (F0 m 36 ls [.int (if t1 < l2 then ((0 : Int32)) else (t1))]) := by
          intro H locs ls hS hl
          obtain rfl := Option.some.inj hM
          exact r_iret C hS d_Pairs_rankOf_36
        refine lv_icmp_lt (tgt := 35) hx hb d_Pairs_rankOf_28 (by decide) (fun c28_5 => ?_) (fun c28_5 => ?_)
        · rw [if_pos c28_5] at kJ36_4
          refine lv_iconst (v := (0 : Int32)) hx hb d_Pairs_rankOf_35 (by decide) ?_
          exact kJ36_4 _ _ _ hS (lv_sub hl [] rfl)
        · rw [if_neg c28_5] at kJ36_4
          refine lv_iload_n hx hb d_Pairs_rankOf_31 rfl (lv_at hl 0 rfl) ?_
          refine lv_goto (tgt := 36) hx hb d_Pairs_rankOf_32 (by decide) ?_
          exact kJ36_4 _ _ _ hS (lv_sub hl [] rfl)
      · rw [if_pos c14_3] at hM
        refine lv_bipush (v := (101 : Int32)) hx hb d_Pairs_rankOf_17 (by decide) ?_
        obtain rfl := Option.some.inj hM
        exact r_iret C hS d_Pairs_rankOf_19
    · rw [if_pos c7_2] at hM
      refine lv_iconst (v := (0 : Int32)) hx hb d_Pairs_rankOf_10 (by decide) ?_
      obtain rfl := Option.some.inj hM
      exact r_iret C hS d_Pairs_rankOf_11
theorem c_Pairs_rankOf (l : Launch) (base : Nat) (D : va_G) (cI cZ : ClassId) (h : Hp) (l0 : Int32) (l1 : Int32) (l2 : Int32) {r : Int32} (hM : f_Pairs_rankOf l0 l1 l2 = some r) : Ct l base D cI cZ y_Pairs_rankOf b_Pairs_rankOf 4 (some .int) 3 74 0 0 h [.int l0, .int l1, .int l2] h (some (.int r)) :=
  ct_of (by decide) (Nat.le_of_ble_eq_true rfl) (fun p e s m below meth c ls C hS hl => t_Pairs_rankOf C hM _ _ _ hS hl)
theorem d_Tree_nameAt_0 : decode b_Tree_nameAt 0 = .ok (.aload_n 0, 1) := by decide +kernel
theorem d_Tree_nameAt_1 : decode b_Tree_nameAt 1 = .ok (.iload_n 1, 1) := by decide +kernel
theorem d_Tree_nameAt_2 : decode b_Tree_nameAt 2 = .ok (.invokevirtual 22, 3) := by decide +kernel
theorem d_Tree_nameAt_5 : decode b_Tree_nameAt 5 = .ok (.ifCond .eq 15, 3) := by decide +kernel
theorem d_Tree_nameAt_8 : decode b_Tree_nameAt 8 = .ok (.aload_n 0, 1) := by decide +kernel
theorem d_Tree_nameAt_9 : decode b_Tree_nameAt 9 = .ok (.getfield 9, 3) := by decide +kernel
theorem d_Tree_nameAt_12 : decode b_Tree_nameAt 12 = .ok (.iload_n 1, 1) := by decide +kernel
theorem d_Tree_nameAt_13 : decode b_Tree_nameAt 13 = .ok (.iaload, 1) := by decide +kernel
theorem d_Tree_nameAt_14 : decode b_Tree_nameAt 14 = .ok (.invokestatic 32, 3) := by decide +kernel
theorem d_Tree_nameAt_17 : decode b_Tree_nameAt 17 = .ok (.goto 5, 3) := by decide +kernel
theorem d_Tree_nameAt_20 : decode b_Tree_nameAt 20 = .ok (.bipush (-6), 2) := by decide +kernel
theorem d_Tree_nameAt_22 : decode b_Tree_nameAt 22 = .ok (.ireturn, 1) := by decide +kernel
def f_Tree_nameAt (h : Hp) (l0 : Nat) (l1 : Int32) : Option Int32 :=
  ck h 7 l0 (
    (f_Tree_has h l0 l1).bind fun t1 =>
    (
      if t1 = (0 : Int32) then (
        some (-6 : Int32)
      ) else (
        (gR h 7 l0 0).bind fun t3 =>
        (gA h false t3 l1).bind fun t4 =>
        (f_Letters_nameOf t4).bind fun t5 =>
        some t5
      )
    ).bind fun t2 =>
    some t2
  )
theorem o_Tree_nameAt {h : Hp} {l0 : Nat} {l1 : Int32} {r : Int32} (hM : f_Tree_nameAt h l0 l1 = some r) : isO h 7 l0 = true := by
  unfold f_Tree_nameAt at hM
  exact (ck_some hM).1
set_option maxHeartbeats 4000000 in
set_option maxRecDepth 100000 in
theorem t_Tree_nameAt {h : Hp} {l0 : Nat} {l1 : Int32} {r : Int32} (C : Cx base D cI cZ b_Tree_nameAt 2 "MovedFolders$Tree" "nameAt" (some .int) p s m args meth c) (hM : f_Tree_nameAt h l0 l1 = some r) (H : Heap) (locs : List Loc) (ls : Array Slot) (hS : RS base D cI cZ s H locs h) (hl : lv_has ls 2 [(0, .ref (base + l0)), (1, .int l1)]) : Wg l base D cI cZ 1 21 0 0 h (some (.int r)) p e s m args below meth c H locs 0 0 (F0 m 0 ls []) := by
  have hx := C.1
  have hb := C.2.1
  unfold f_Tree_nameAt at hM
  replace hM := (ck_some hM).2
  refine lv_aload_n hx hb d_Tree_nameAt_0 rfl (lv_at hl 0 rfl) ?_
  refine lv_iload_n hx hb d_Tree_nameAt_1 rfl (lv_at hl 1 rfl) ?_
  obtain ⟨t1, et1, hM⟩ := bS hM
  refine r_callVi (x := t1) C hS cv_Tree_22 (c_Tree_has l base D cI cZ h l0 l1 et1) (o_Tree_has et1) (rest := []) rfl hl.1 rfl (Nat.le_of_ble_eq_true rfl) ⟨(Nat.le_of_ble_eq_true rfl), (Nat.le_of_ble_eq_true rfl)⟩ ⟨(Nat.le_of_ble_eq_true rfl), (Nat.le_of_ble_eq_true rfl)⟩ d_Tree_nameAt_2 (fun H locs hS => ?_)
  obtain ⟨t2, et2, hM⟩ := bS hM
  have kJ22_1 : ∀ (H : Heap) (locs : List Loc) (ls : Array Slot), RS base D cI cZ s H locs h → lv_has ls 2 [] → Wg l base D cI cZ 1 21 0 0 h (some (.int r)) p e s m args below meth c H locs 0 0 (F0 m 22 ls [.int t2]) := by
    intro H locs ls hS hl
    obtain rfl := Option.some.inj hM
    exact r_iret C hS d_Tree_nameAt_22
  refine lv_if_eq (tgt := 20) hx hb d_Tree_nameAt_5 (by decide) (fun c5_2 => ?_) (fun c5_2 => ?_)
  · rw [if_pos c5_2] at et2
    refine lv_bipush (v := (-6 : Int32)) hx hb d_Tree_nameAt_20 (by decide) ?_
    obtain rfl := Option.some.inj et2
    exact kJ22_1 _ _ _ hS (lv_sub hl [] rfl)
  · rw [if_neg c5_2] at et2
    refine lv_aload_n hx hb d_Tree_nameAt_8 rfl (lv_at hl 0 rfl) ?_
    obtain ⟨t3, et3, et2⟩ := bS et2
    refine r_getR C hS fl_Tree_9 et3 d_Tree_nameAt_9 ?_
    refine lv_iload_n hx hb d_Tree_nameAt_12 rfl (lv_at hl 1 rfl) ?_
    obtain ⟨t4, et4, et2⟩ := bS et2
    refine r_iald C hS et4 d_Tree_nameAt_13 ?_
    obtain ⟨t5, et5, et2⟩ := bS et2
    refine r_callSi (x := t5) C hS cs_Tree_32 (c_Letters_nameOf l base D cI cZ h t4 et5) (rest := []) rfl hl.1 rfl (Nat.le_of_ble_eq_true rfl) ⟨(Nat.le_of_ble_eq_true rfl), (Nat.le_of_ble_eq_true rfl)⟩ ⟨(Nat.le_of_ble_eq_true rfl), (Nat.le_of_ble_eq_true rfl)⟩ d_Tree_nameAt_14 (fun H locs hS => ?_)
    refine lv_goto (tgt := 22) hx hb d_Tree_nameAt_17 (by decide) ?_
    obtain rfl := Option.some.inj et2
    exact kJ22_1 _ _ _ hS (lv_sub hl [] rfl)
theorem c_Tree_nameAt (l : Launch) (base : Nat) (D : va_G) (cI cZ : ClassId) (h : Hp) (l0 : Nat) (l1 : Int32) {r : Int32} (hM : f_Tree_nameAt h l0 l1 = some r) : Ct l base D cI cZ y_Tree_nameAt b_Tree_nameAt 2 (some .int) 1 21 0 0 h [.ref (base + l0), .int l1] h (some (.int r)) :=
  ct_of (by decide) (Nat.le_of_ble_eq_true rfl) (fun p e s m below meth c ls C hS hl => t_Tree_nameAt C hM _ _ _ hS hl)
theorem d_Pairs_rankOthers_0 : decode b_Pairs_rankOthers 0 = .ok (.iconst 0, 1) := by decide +kernel
theorem d_Pairs_rankOthers_1 : decode b_Pairs_rankOthers 1 = .ok (.istore 4, 2) := by decide +kernel
theorem d_Pairs_rankOthers_3 : decode b_Pairs_rankOthers 3 = .ok (.iload 4, 2) := by decide +kernel
theorem d_Pairs_rankOthers_5 : decode b_Pairs_rankOthers 5 = .ok (.aload_n 1, 1) := by decide +kernel
theorem d_Pairs_rankOthers_6 : decode b_Pairs_rankOthers 6 = .ok (.invokevirtual 24, 3) := by decide +kernel
theorem d_Pairs_rankOthers_9 : decode b_Pairs_rankOthers 9 = .ok (.if_icmp .ge 136, 3) := by decide +kernel
theorem d_Pairs_rankOthers_12 : decode b_Pairs_rankOthers 12 = .ok (.iconst 0, 1) := by decide +kernel
theorem d_Pairs_rankOthers_13 : decode b_Pairs_rankOthers 13 = .ok (.istore 5, 2) := by decide +kernel
theorem d_Pairs_rankOthers_15 : decode b_Pairs_rankOthers 15 = .ok (.iload 5, 2) := by decide +kernel
theorem d_Pairs_rankOthers_17 : decode b_Pairs_rankOthers 17 = .ok (.aload_n 2, 1) := by decide +kernel
theorem d_Pairs_rankOthers_18 : decode b_Pairs_rankOthers 18 = .ok (.invokevirtual 24, 3) := by decide +kernel
theorem d_Pairs_rankOthers_21 : decode b_Pairs_rankOthers 21 = .ok (.if_icmp .ge 118, 3) := by decide +kernel
theorem d_Pairs_rankOthers_24 : decode b_Pairs_rankOthers 24 = .ok (.aload_n 0, 1) := by decide +kernel
theorem d_Pairs_rankOthers_25 : decode b_Pairs_rankOthers 25 = .ok (.getfield 9, 3) := by decide +kernel
theorem d_Pairs_rankOthers_28 : decode b_Pairs_rankOthers 28 = .ok (.iload 4, 2) := by decide +kernel
theorem d_Pairs_rankOthers_30 : decode b_Pairs_rankOthers 30 = .ok (.iaload, 1) := by decide +kernel
theorem d_Pairs_rankOthers_31 : decode b_Pairs_rankOthers 31 = .ok (.bipush (-6), 2) := by decide +kernel
theorem d_Pairs_rankOthers_33 : decode b_Pairs_rankOthers 33 = .ok (.if_icmp .ne 19, 3) := by decide +kernel
theorem d_Pairs_rankOthers_36 : decode b_Pairs_rankOthers 36 = .ok (.aload_n 0, 1) := by decide +kernel
theorem d_Pairs_rankOthers_37 : decode b_Pairs_rankOthers 37 = .ok (.getfield 18, 3) := by decide +kernel
theorem d_Pairs_rankOthers_40 : decode b_Pairs_rankOthers 40 = .ok (.iload 5, 2) := by decide +kernel
theorem d_Pairs_rankOthers_42 : decode b_Pairs_rankOthers 42 = .ok (.iaload, 1) := by decide +kernel
theorem d_Pairs_rankOthers_43 : decode b_Pairs_rankOthers 43 = .ok (.bipush (-6), 2) := by decide +kernel
theorem d_Pairs_rankOthers_45 : decode b_Pairs_rankOthers 45 = .ok (.if_icmp .ne 7, 3) := by decide +kernel
theorem d_Pairs_rankOthers_48 : decode b_Pairs_rankOthers 48 = .ok (.iconst 1, 1) := by decide +kernel
theorem d_Pairs_rankOthers_49 : decode b_Pairs_rankOthers 49 = .ok (.goto 4, 3) := by decide +kernel
theorem d_Pairs_rankOthers_52 : decode b_Pairs_rankOthers 52 = .ok (.iconst 0, 1) := by decide +kernel
theorem d_Pairs_rankOthers_53 : decode b_Pairs_rankOthers 53 = .ok (.istore 6, 2) := by decide +kernel
theorem d_Pairs_rankOthers_55 : decode b_Pairs_rankOthers 55 = .ok (.iload 6, 2) := by decide +kernel
theorem d_Pairs_rankOthers_57 : decode b_Pairs_rankOthers 57 = .ok (.ifCond .eq 22, 3) := by decide +kernel
theorem d_Pairs_rankOthers_60 : decode b_Pairs_rankOthers 60 = .ok (.aload_n 1, 1) := by decide +kernel
theorem d_Pairs_rankOthers_61 : decode b_Pairs_rankOthers 61 = .ok (.iload 4, 2) := by decide +kernel
theorem d_Pairs_rankOthers_63 : decode b_Pairs_rankOthers 63 = .ok (.invokevirtual 62, 3) := by decide +kernel
theorem d_Pairs_rankOthers_66 : decode b_Pairs_rankOthers 66 = .ok (.aload_n 2, 1) := by decide +kernel
theorem d_Pairs_rankOthers_67 : decode b_Pairs_rankOthers 67 = .ok (.iload 5, 2) := by decide +kernel
theorem d_Pairs_rankOthers_69 : decode b_Pairs_rankOthers 69 = .ok (.invokevirtual 62, 3) := by decide +kernel
theorem d_Pairs_rankOthers_72 : decode b_Pairs_rankOthers 72 = .ok (.iload_n 3, 1) := by decide +kernel
theorem d_Pairs_rankOthers_73 : decode b_Pairs_rankOthers 73 = .ok (.invokestatic 65, 3) := by decide +kernel
theorem d_Pairs_rankOthers_76 : decode b_Pairs_rankOthers 76 = .ok (.goto 4, 3) := by decide +kernel
theorem d_Pairs_rankOthers_79 : decode b_Pairs_rankOthers 79 = .ok (.iconst 0, 1) := by decide +kernel
theorem d_Pairs_rankOthers_80 : decode b_Pairs_rankOthers 80 = .ok (.istore 7, 2) := by decide +kernel
theorem d_Pairs_rankOthers_82 : decode b_Pairs_rankOthers 82 = .ok (.aload_n 1, 1) := by decide +kernel
theorem d_Pairs_rankOthers_83 : decode b_Pairs_rankOthers 83 = .ok (.iload 4, 2) := by decide +kernel
theorem d_Pairs_rankOthers_85 : decode b_Pairs_rankOthers 85 = .ok (.invokevirtual 69, 3) := by decide +kernel
theorem d_Pairs_rankOthers_88 : decode b_Pairs_rankOthers 88 = .ok (.aload_n 2, 1) := by decide +kernel
theorem d_Pairs_rankOthers_89 : decode b_Pairs_rankOthers 89 = .ok (.iload 5, 2) := by decide +kernel
theorem d_Pairs_rankOthers_91 : decode b_Pairs_rankOthers 91 = .ok (.invokevirtual 69, 3) := by decide +kernel
theorem d_Pairs_rankOthers_94 : decode b_Pairs_rankOthers 94 = .ok (.if_icmp .ne 7, 3) := by decide +kernel
theorem d_Pairs_rankOthers_97 : decode b_Pairs_rankOthers 97 = .ok (.iconst 1, 1) := by decide +kernel
theorem d_Pairs_rankOthers_98 : decode b_Pairs_rankOthers 98 = .ok (.goto 4, 3) := by decide +kernel
theorem d_Pairs_rankOthers_101 : decode b_Pairs_rankOthers 101 = .ok (.iconst 0, 1) := by decide +kernel
theorem d_Pairs_rankOthers_102 : decode b_Pairs_rankOthers 102 = .ok (.istore 8, 2) := by decide +kernel
theorem d_Pairs_rankOthers_104 : decode b_Pairs_rankOthers 104 = .ok (.aload_n 0, 1) := by decide +kernel
theorem d_Pairs_rankOthers_105 : decode b_Pairs_rankOthers 105 = .ok (.getfield 21, 3) := by decide +kernel
theorem d_Pairs_rankOthers_108 : decode b_Pairs_rankOthers 108 = .ok (.iload 4, 2) := by decide +kernel
theorem d_Pairs_rankOthers_110 : decode b_Pairs_rankOthers 110 = .ok (.bipush 12, 2) := by decide +kernel
theorem d_Pairs_rankOthers_112 : decode b_Pairs_rankOthers 112 = .ok (.imul, 1) := by decide +kernel
theorem d_Pairs_rankOthers_113 : decode b_Pairs_rankOthers 113 = .ok (.iload 5, 2) := by decide +kernel
theorem d_Pairs_rankOthers_115 : decode b_Pairs_rankOthers 115 = .ok (.iadd, 1) := by decide +kernel
theorem d_Pairs_rankOthers_116 : decode b_Pairs_rankOthers 116 = .ok (.iload 7, 2) := by decide +kernel
theorem d_Pairs_rankOthers_118 : decode b_Pairs_rankOthers 118 = .ok (.ifCond .ne 7, 3) := by decide +kernel
theorem d_Pairs_rankOthers_121 : decode b_Pairs_rankOthers 121 = .ok (.iconst 0, 1) := by decide +kernel
theorem d_Pairs_rankOthers_122 : decode b_Pairs_rankOthers 122 = .ok (.goto 10, 3) := by decide +kernel
theorem d_Pairs_rankOthers_125 : decode b_Pairs_rankOthers 125 = .ok (.iconst 2, 1) := by decide +kernel
theorem d_Pairs_rankOthers_126 : decode b_Pairs_rankOthers 126 = .ok (.iload 7, 2) := by decide +kernel
theorem d_Pairs_rankOthers_128 : decode b_Pairs_rankOthers 128 = .ok (.imul, 1) := by decide +kernel
theorem d_Pairs_rankOthers_129 : decode b_Pairs_rankOthers 129 = .ok (.iload 8, 2) := by decide +kernel
theorem d_Pairs_rankOthers_131 : decode b_Pairs_rankOthers 131 = .ok (.iadd, 1) := by decide +kernel
theorem d_Pairs_rankOthers_132 : decode b_Pairs_rankOthers 132 = .ok (.iastore, 1) := by decide +kernel
theorem d_Pairs_rankOthers_133 : decode b_Pairs_rankOthers 133 = .ok (.iinc 5 1, 3) := by decide +kernel
theorem d_Pairs_rankOthers_136 : decode b_Pairs_rankOthers 136 = .ok (.goto (-121), 3) := by decide +kernel
theorem d_Pairs_rankOthers_139 : decode b_Pairs_rankOthers 139 = .ok (.iinc 4 1, 3) := by decide +kernel
theorem d_Pairs_rankOthers_142 : decode b_Pairs_rankOthers 142 = .ok (.goto (-139), 3) := by decide +kernel
theorem d_Pairs_rankOthers_145 : decode b_Pairs_rankOthers 145 = .ok (.return_, 1) := by decide +kernel
def f_Pairs_rankOthers_15 (l0 : Nat) (l1 : Nat) (l2 : Nat) (l3 : Int32) (l4 : Int32) (k3 : Int32 → Hp → Option Hp) : Nat → Int32 → Hp → Option Hp
  | 0, _, _ => none
  | n + 1, l5, h =>
    (f_Tree_size h l2).bind fun t2 =>
    if t2 ≤ l5 then (
      k3 (l4 + (1 : Int32)) h
    ) else (
      (gR h 5 l0 0).bind fun t3 =>
      (gA h false t3 l4).bind fun t4 =>
      (
        if t4 = (-6 : Int32) then (
          (gR h 5 l0 2).bind fun t6 =>
          (gA h false t6 l5).bind fun t7 =>
          if t7 = (-6 : Int32) then (
            some (1 : Int32)
          ) else (
            some (0 : Int32)
          )
        ) else (
          some (0 : Int32)
        )
      ).bind fun t5 =>
      (
        if t5 = (0 : Int32) then (
          some (0 : Int32)
        ) else (
          (f_Tree_contentAt h l1 l4).bind fun t9 =>
          (f_Tree_contentAt h l2 l5).bind fun t10 =>
          (f_Pairs_rankOf t9 t10 l3).bind fun t11 =>
          some t11
        )
      ).bind fun t8 =>
      (f_Tree_nameAt h l1 l4).bind fun t12 =>
      (f_Tree_nameAt h l2 l5).bind fun t13 =>
      (gR h 5 l0 3).bind fun t14 =>
      (sA h t14 ((l4 * (12 : Int32)) + l5) (if t8 = (0 : Int32) then ((0 : Int32)) else ((((2 : Int32) * t8) + (if t12 = t13 then ((1 : Int32)) else ((0 : Int32))))))).bind fun h15 =>
      f_Pairs_rankOthers_15 l0 l1 l2 l3 l4 k3 n (l5 + (1 : Int32)) h15
    )
set_option maxHeartbeats 4000000 in
set_option maxRecDepth 100000 in
theorem t_Pairs_rankOthers_15 {l0 : Nat} {l1 : Nat} {l2 : Nat} {l3 : Int32} {l4 : Int32} {k3 : Int32 → Hp → Option Hp} {r : Hp} (C : Cx base D cI cZ b_Pairs_rankOthers 9 "MovedFolders$Pairs" "rankOthers" none p s m args meth c) (hk3 : ∀ (l4 : Int32) (h : Hp), k3 l4 h = some r → ∀ (H : Heap) (locs : List Loc) (ls : Array Slot), RS base D cI cZ s H locs h → lv_has ls 9 [(0, .ref (base + l0)), (1, .ref (base + l1)), (2, .ref (base + l2)), (3, .int l3), (4, .int l4)] → Wg l base D cI cZ 4 97 0 0 r none p e s m args below meth c H locs 0 0 (F0 m 3 ls [])) : ∀ (n : Nat) (l5 : Int32) (h : Hp), f_Pairs_rankOthers_15 l0 l1 l2 l3 l4 k3 n l5 h = some r → ∀ (H : Heap) (locs : List Loc) (ls : Array Slot), RS base D cI cZ s H locs h → lv_has ls 9 [(0, .ref (base + l0)), (1, .ref (base + l1)), (2, .ref (base + l2)), (3, .int l3), (4, .int l4), (5, .int l5)] → Wg l base D cI cZ 4 97 0 0 r none p e s m args below meth c H locs 0 0 (F0 m 15 ls []) := by
  have hx := C.1
  have hb := C.2.1
  intro n
  induction n with
  | zero =>
    intro l5 h hM
    rw [f_Pairs_rankOthers_15] at hM
    cases hM
  | succ n ih =>
    intro l5 h hM H locs ls hS hl
    rw [f_Pairs_rankOthers_15] at hM
    refine lv_iload hx hb d_Pairs_rankOthers_15 (lv_at hl 5 rfl) ?_
    refine lv_aload_n hx hb d_Pairs_rankOthers_17 rfl (lv_at hl 2 rfl) ?_
    obtain ⟨t2, et2, hM⟩ := bS hM
    refine r_callVi (x := t2) C hS cv_Pairs_24 (c_Tree_size l base D cI cZ h l2 et2) (o_Tree_size et2) (rest := [.int l5]) rfl hl.1 rfl (Nat.le_of_ble_eq_true rfl) ⟨(Nat.le_of_ble_eq_true rfl), (Nat.le_of_ble_eq_true rfl)⟩ ⟨(Nat.le_of_ble_eq_true rfl), (Nat.le_of_ble_eq_true rfl)⟩ d_Pairs_rankOthers_18 (fun H locs hS => ?_)
    refine lv_icmp_ge (tgt := 139) hx hb d_Pairs_rankOthers_21 (by decide) (fun c21_2 => ?_) (fun c21_2 => ?_)
    · rw [if_pos c21_2] at hM
      refine lv_iinc (v := (l4 + (1 : Int32))) (lv' := [(4, .int (l4 + (1 : Int32))), (0, .ref (base + l0)), (1, .ref (base + l1)), (2, .ref (base + l2)), (3, .int l3), (5, .int l5)]) hx hb d_Pairs_rankOthers_139 hl (k := 4) rfl (by rw [oi_1]) (by decide) rfl (fun ls hl => ?_)
      refine lv_goto (tgt := 3) hx hb d_Pairs_rankOthers_142 (by decide) ?_
      exact hk3 (l4 + (1 : Int32)) h hM _ _ _ hS (lv_sub hl [1, 2, 3, 4, 0] rfl)
    · rw [if_neg c21_2] at hM
      refine lv_aload_n hx hb d_Pairs_rankOthers_24 rfl (lv_at hl 0 rfl) ?_
      obtain ⟨t3, et3, hM⟩ := bS hM
      refine r_getR C hS fl_Pairs_9 et3 d_Pairs_rankOthers_25 ?_
      refine lv_iload hx hb d_Pairs_rankOthers_28 (lv_at hl 4 rfl) ?_
      obtain ⟨t4, et4, hM⟩ := bS hM
      refine r_iald C hS et4 d_Pairs_rankOthers_30 ?_
      refine lv_bipush (v := (-6 : Int32)) hx hb d_Pairs_rankOthers_31 (by decide) ?_
      obtain ⟨t5, et5, hM⟩ := bS hM
      have kJ53_3 : ∀ (H : Heap) (locs : List Loc) (ls : Array Slot), RS base D cI cZ s H locs h → lv_has ls 9 [(0, .ref (base + l0)), (1, .ref (base + l1)), (2, .ref (base + l2)), (3, .int l3), (4, .int l4), (5, .int l5)] → Wg l base D cI cZ 4 97 0 0 r none p e s m args below meth c H locs 0 0 (F0 m 53 ls [.int t5]) := by
        intro H locs ls hS hl
        refine lv_istore (lv' := [(6, .int t5), (0, .ref (base + l0)), (1, .ref (base + l1)), (2, .ref (base + l2)), (3, .int l3), (4, .int l4), (5, .int l5)]) hx hb d_Pairs_rankOthers_53 hl (by decide) rfl (fun ls hl => ?_)
        refine lv_iload hx hb d_Pairs_rankOthers_55 (lv_at hl 0 rfl) ?_
        obtain ⟨t8, et8, hM⟩ := bS hM
        have kJ80_6 : ∀ (H : Heap) (locs : List Loc) (ls : Array Slot), RS base D cI cZ s H locs h → lv_has ls 9 [(0, .ref (base + l0)), (1, .ref (base + l1)), (2, .ref (base + l2)), (3, .int l3), (4, .int l4), (5, .int l5)] → Wg l base D cI cZ 4 97 0 0 r none p e s m args below meth c H locs 0 0 (F0 m 80 ls [.int t8]) := by
          intro H locs ls hS hl
          refine lv_istore (lv' := [(7, .int t8), (0, .ref (base + l0)), (1, .ref (base + l1)), (2, .ref (base + l2)), (3, .int l3), (4, .int l4), (5, .int l5)]) hx hb d_Pairs_rankOthers_80 hl (by decide) rfl (fun ls hl => ?_)
          refine lv_aload_n hx hb d_Pairs_rankOthers_82 rfl (lv_at hl 2 rfl) ?_
          refine lv_iload hx hb d_Pairs_rankOthers_83 (lv_at hl 5 rfl) ?_
          obtain ⟨t12, et12, hM⟩ := bS hM
          refine r_callVi (x := t12) C hS cv_Pairs_69 (c_Tree_nameAt l base D cI cZ h l1 l4 et12) (o_Tree_nameAt et12) (rest := []) rfl hl.1 rfl (Nat.le_of_ble_eq_true rfl) ⟨(Nat.le_of_ble_eq_true rfl), (Nat.le_of_ble_eq_true rfl)⟩ ⟨(Nat.le_of_ble_eq_true rfl), (Nat.le_of_ble_eq_true rfl)⟩ d_Pairs_rankOthers_85 (fun H locs hS => ?_)
          refine lv_aload_n hx hb d_Pairs_rankOthers_88 rfl (lv_at hl 3 rfl) ?_
          refine lv_iload hx hb d_Pairs_rankOthers_89 (lv_at hl 6 rfl) ?_
          obtain ⟨t13, et13, hM⟩ := bS hM
          refine r_callVi (x := t13) C hS cv_Pairs_69 (c_Tree_nameAt l base D cI cZ h l2 l5 et13) (o_Tree_nameAt et13) (rest := [.int t12]) rfl hl.1 rfl (Nat.le_of_ble_eq_true rfl) ⟨(Nat.le_of_ble_eq_true rfl), (Nat.le_of_ble_eq_true rfl)⟩ ⟨(Nat.le_of_ble_eq_true rfl), (Nat.le_of_ble_eq_true rfl)⟩ d_Pairs_rankOthers_91 (fun H locs hS => ?_)
          have kJ102_8 : ∀ (H : Heap) (locs : List Loc) (ls : Array Slot), RS base D cI cZ s H locs h → lv_has ls 9 [(0, .ref (base + l0)), (1, .ref (base + l1)), (2, .ref (base + l2)), (3, .int l3), (4, .int l4), (5, .int l5), (7, .int t8)] → Wg l base D cI cZ 4 97 0 0 r none p e s m args below meth c H locs 0 0 (F0 m 102 ls [.int (if t12 = t13 then ((1 : Int32)) else ((0 : Int32)))]) := by
            intro H locs ls hS hl
            refine lv_istore (lv' := [(8, .int (if t12 = t13 then ((1 : Int32)) else ((0 : Int32)))), (0, .ref (base + l0)), (1, .ref (base + l1)), (2, .ref (base + l2)), (3, .int l3), (4, .int l4), (5, .int l5), (7, .int t8)]) hx hb d_Pairs_rankOthers_102 hl (by decide) rfl (fun ls hl => ?_)
            refine lv_aload_n hx hb d_Pairs_rankOthers_104 rfl (lv_at hl 1 rfl) ?_
            obtain ⟨t14, et14, hM⟩ := bS hM
            refine r_getR C hS fl_Pairs_21 et14 d_Pairs_rankOthers_105 ?_
            refine lv_iload hx hb d_Pairs_rankOthers_108 (lv_at hl 5 rfl) ?_
            refine lv_bipush (v := (12 : Int32)) hx hb d_Pairs_rankOthers_110 (by decide) ?_
            refine lv_imul hx hb d_Pairs_rankOthers_112 ?_
            refine lv_iload hx hb d_Pairs_rankOthers_113 (lv_at hl 6 rfl) ?_
            refine lv_iadd hx hb d_Pairs_rankOthers_115 ?_
            refine lv_iload hx hb d_Pairs_rankOthers_116 (lv_at hl 7 rfl) ?_
            have kJ132_10 : ∀ (H : Heap) (locs : List Loc) (ls : Array Slot), RS base D cI cZ s H locs h → lv_has ls 9 [(0, .ref (base + l0)), (1, .ref (base + l1)), (2, .ref (base + l2)), (3, .int l3), (4, .int l4), (5, .int l5)] → Wg l base D cI cZ 4 97 0 0 r none p e s m args below meth c H locs 0 0 (F0 m 132 ls [.int (if t8 = (0 : Int32) then ((0 : Int32)) else ((((2 : Int32) * t8) + (if t12 = t13 then ((1 : Int32)) else ((0 : Int32)))))), .int ((l4 * (12 : Int32)) + l5), .ref (base + t14)]) := by
              intro H locs ls hS hl
              obtain ⟨h15, eh15, hM⟩ := bS hM
              refine r_iast C hS eh15 d_Pairs_rankOthers_132 (fun H locs hS => ?_)
              refine lv_iinc (v := (l5 + (1 : Int32))) (lv' := [(5, .int (l5 + (1 : Int32))), (0, .ref (base + l0)), (1, .ref (base + l1)), (2, .ref (base + l2)), (3, .int l3), (4, .int l4)]) hx hb d_Pairs_rankOthers_133 hl (k := 5) rfl (by rw [oi_1]) (by decide) rfl (fun ls hl => ?_)
              refine lv_goto (tgt := 15) hx hb d_Pairs_rankOthers_136 (by decide) ?_
              exact ih (l5 + (1 : Int32)) h15 hM _ _ _ hS (lv_sub hl [1, 2, 3, 4, 5, 0] rfl)
            refine lv_if_ne (tgt := 125) hx hb d_Pairs_rankOthers_118 (by decide) (fun c118_11 => ?_) (fun c118_11 => ?_)
            · rw [if_neg c118_11] at kJ132_10
              refine lv_iconst (v := (2 : Int32)) hx hb d_Pairs_rankOthers_125 (by decide) ?_
              refine lv_iload hx hb d_Pairs_rankOthers_126 (lv_at hl 7 rfl) ?_
              refine lv_imul hx hb d_Pairs_rankOthers_128 ?_
              refine lv_iload hx hb d_Pairs_rankOthers_129 (lv_at hl 0 rfl) ?_
              refine lv_iadd hx hb d_Pairs_rankOthers_131 ?_
              exact kJ132_10 _ _ _ hS (lv_sub hl [1, 2, 3, 4, 5, 6] rfl)
            · rw [if_pos c118_11] at kJ132_10
              refine lv_iconst (v := (0 : Int32)) hx hb d_Pairs_rankOthers_121 (by decide) ?_
              refine lv_goto (tgt := 132) hx hb d_Pairs_rankOthers_122 (by decide) ?_
              exact kJ132_10 _ _ _ hS (lv_sub hl [1, 2, 3, 4, 5, 6] rfl)
          refine lv_icmp_ne (tgt := 101) hx hb d_Pairs_rankOthers_94 (by decide) (fun c94_9 => ?_) (fun c94_9 => ?_)
          · rw [if_neg c94_9] at kJ102_8
            refine lv_iconst (v := (0 : Int32)) hx hb d_Pairs_rankOthers_101 (by decide) ?_
            exact kJ102_8 _ _ _ hS (lv_sub hl [1, 2, 3, 4, 5, 6, 0] rfl)
          · rw [if_pos c94_9] at kJ102_8
            refine lv_iconst (v := (1 : Int32)) hx hb d_Pairs_rankOthers_97 (by decide) ?_
            refine lv_goto (tgt := 102) hx hb d_Pairs_rankOthers_98 (by decide) ?_
            exact kJ102_8 _ _ _ hS (lv_sub hl [1, 2, 3, 4, 5, 6, 0] rfl)
        refine lv_if_eq (tgt := 79) hx hb d_Pairs_rankOthers_57 (by decide) (fun c57_7 => ?_) (fun c57_7 => ?_)
        · rw [if_pos c57_7] at et8
          refine lv_iconst (v := (0 : Int32)) hx hb d_Pairs_rankOthers_79 (by decide) ?_
          obtain rfl := Option.some.inj et8
          exact kJ80_6 _ _ _ hS (lv_sub hl [1, 2, 3, 4, 5, 6] rfl)
        · rw [if_neg c57_7] at et8
          refine lv_aload_n hx hb d_Pairs_rankOthers_60 rfl (lv_at hl 2 rfl) ?_
          refine lv_iload hx hb d_Pairs_rankOthers_61 (lv_at hl 5 rfl) ?_
          obtain ⟨t9, et9, et8⟩ := bS et8
          refine r_callVi (x := t9) C hS cv_Pairs_62 (c_Tree_contentAt l base D cI cZ h l1 l4 et9) (o_Tree_contentAt et9) (rest := []) rfl hl.1 rfl (Nat.le_of_ble_eq_true rfl) ⟨(Nat.le_of_ble_eq_true rfl), (Nat.le_of_ble_eq_true rfl)⟩ ⟨(Nat.le_of_ble_eq_true rfl), (Nat.le_of_ble_eq_true rfl)⟩ d_Pairs_rankOthers_63 (fun H locs hS => ?_)
          refine lv_aload_n hx hb d_Pairs_rankOthers_66 rfl (lv_at hl 3 rfl) ?_
          refine lv_iload hx hb d_Pairs_rankOthers_67 (lv_at hl 6 rfl) ?_
          obtain ⟨t10, et10, et8⟩ := bS et8
          refine r_callVi (x := t10) C hS cv_Pairs_62 (c_Tree_contentAt l base D cI cZ h l2 l5 et10) (o_Tree_contentAt et10) (rest := [.int t9]) rfl hl.1 rfl (Nat.le_of_ble_eq_true rfl) ⟨(Nat.le_of_ble_eq_true rfl), (Nat.le_of_ble_eq_true rfl)⟩ ⟨(Nat.le_of_ble_eq_true rfl), (Nat.le_of_ble_eq_true rfl)⟩ d_Pairs_rankOthers_69 (fun H locs hS => ?_)
          refine lv_iload_n hx hb d_Pairs_rankOthers_72 rfl (lv_at hl 4 rfl) ?_
          obtain ⟨t11, et11, et8⟩ := bS et8
          refine r_callSi (x := t11) C hS cs_Pairs_65 (c_Pairs_rankOf l base D cI cZ h t9 t10 l3 et11) (rest := []) rfl hl.1 rfl (Nat.le_of_ble_eq_true rfl) ⟨(Nat.le_of_ble_eq_true rfl), (Nat.le_of_ble_eq_true rfl)⟩ ⟨(Nat.le_of_ble_eq_true rfl), (Nat.le_of_ble_eq_true rfl)⟩ d_Pairs_rankOthers_73 (fun H locs hS => ?_)
          refine lv_goto (tgt := 80) hx hb d_Pairs_rankOthers_76 (by decide) ?_
          obtain rfl := Option.some.inj et8
          exact kJ80_6 _ _ _ hS (lv_sub hl [1, 2, 3, 4, 5, 6] rfl)
      refine lv_icmp_ne (tgt := 52) hx hb d_Pairs_rankOthers_33 (by decide) (fun c33_4 => ?_) (fun c33_4 => ?_)
      · rw [if_neg c33_4] at et5
        refine lv_iconst (v := (0 : Int32)) hx hb d_Pairs_rankOthers_52 (by decide) ?_
        obtain rfl := Option.some.inj et5
        exact kJ53_3 _ _ _ hS (lv_sub hl [0, 1, 2, 3, 4, 5] rfl)
      · rw [if_pos c33_4] at et5
        refine lv_aload_n hx hb d_Pairs_rankOthers_36 rfl (lv_at hl 0 rfl) ?_
        obtain ⟨t6, et6, et5⟩ := bS et5
        refine r_getR C hS fl_Pairs_18 et6 d_Pairs_rankOthers_37 ?_
        refine lv_iload hx hb d_Pairs_rankOthers_40 (lv_at hl 5 rfl) ?_
        obtain ⟨t7, et7, et5⟩ := bS et5
        refine r_iald C hS et7 d_Pairs_rankOthers_42 ?_
        refine lv_bipush (v := (-6 : Int32)) hx hb d_Pairs_rankOthers_43 (by decide) ?_
        refine lv_icmp_ne (tgt := 52) hx hb d_Pairs_rankOthers_45 (by decide) (fun c45_5 => ?_) (fun c45_5 => ?_)
        · rw [if_neg c45_5] at et5
          refine lv_iconst (v := (0 : Int32)) hx hb d_Pairs_rankOthers_52 (by decide) ?_
          obtain rfl := Option.some.inj et5
          exact kJ53_3 _ _ _ hS (lv_sub hl [0, 1, 2, 3, 4, 5] rfl)
        · rw [if_pos c45_5] at et5
          refine lv_iconst (v := (1 : Int32)) hx hb d_Pairs_rankOthers_48 (by decide) ?_
          refine lv_goto (tgt := 53) hx hb d_Pairs_rankOthers_49 (by decide) ?_
          obtain rfl := Option.some.inj et5
          exact kJ53_3 _ _ _ hS (lv_sub hl [0, 1, 2, 3, 4, 5] rfl)
def f_Pairs_rankOthers_3 (l0 : Nat) (l1 : Nat) (l2 : Nat) (l3 : Int32) : Nat → Int32 → Hp → Option Hp
  | 0, _, _ => none
  | n + 1, l4, h =>
    (f_Tree_size h l1).bind fun t1 =>
    if t1 ≤ l4 then (
      some h
    ) else (
      f_Pairs_rankOthers_15 l0 l1 l2 l3 l4 (fun l4 h => f_Pairs_rankOthers_3 l0 l1 l2 l3 n l4 h) FU (0 : Int32) h
    )
set_option maxHeartbeats 4000000 in
set_option maxRecDepth 100000 in
theorem t_Pairs_rankOthers_3 {l0 : Nat} {l1 : Nat} {l2 : Nat} {l3 : Int32} {r : Hp} (C : Cx base D cI cZ b_Pairs_rankOthers 9 "MovedFolders$Pairs" "rankOthers" none p s m args meth c)  : ∀ (n : Nat) (l4 : Int32) (h : Hp), f_Pairs_rankOthers_3 l0 l1 l2 l3 n l4 h = some r → ∀ (H : Heap) (locs : List Loc) (ls : Array Slot), RS base D cI cZ s H locs h → lv_has ls 9 [(0, .ref (base + l0)), (1, .ref (base + l1)), (2, .ref (base + l2)), (3, .int l3), (4, .int l4)] → Wg l base D cI cZ 4 97 0 0 r none p e s m args below meth c H locs 0 0 (F0 m 3 ls []) := by
  have hx := C.1
  have hb := C.2.1
  intro n
  induction n with
  | zero =>
    intro l4 h hM
    rw [f_Pairs_rankOthers_3] at hM
    cases hM
  | succ n ih =>
    intro l4 h hM H locs ls hS hl
    rw [f_Pairs_rankOthers_3] at hM
    refine lv_iload hx hb d_Pairs_rankOthers_3 (lv_at hl 4 rfl) ?_
    refine lv_aload_n hx hb d_Pairs_rankOthers_5 rfl (lv_at hl 1 rfl) ?_
    obtain ⟨t1, et1, hM⟩ := bS hM
    refine r_callVi (x := t1) C hS cv_Pairs_24 (c_Tree_size l base D cI cZ h l1 et1) (o_Tree_size et1) (rest := [.int l4]) rfl hl.1 rfl (Nat.le_of_ble_eq_true rfl) ⟨(Nat.le_of_ble_eq_true rfl), (Nat.le_of_ble_eq_true rfl)⟩ ⟨(Nat.le_of_ble_eq_true rfl), (Nat.le_of_ble_eq_true rfl)⟩ d_Pairs_rankOthers_6 (fun H locs hS => ?_)
    refine lv_icmp_ge (tgt := 145) hx hb d_Pairs_rankOthers_9 (by decide) (fun c9_1 => ?_) (fun c9_1 => ?_)
    · rw [if_pos c9_1] at hM
      obtain rfl := Option.some.inj hM
      exact r_vret C hS d_Pairs_rankOthers_145
    · rw [if_neg c9_1] at hM
      refine lv_iconst (v := (0 : Int32)) hx hb d_Pairs_rankOthers_12 (by decide) ?_
      refine lv_istore (lv' := [(5, .int (0 : Int32)), (0, .ref (base + l0)), (1, .ref (base + l1)), (2, .ref (base + l2)), (3, .int l3), (4, .int l4)]) hx hb d_Pairs_rankOthers_13 hl (by decide) rfl (fun ls hl => ?_)
      exact t_Pairs_rankOthers_15 (k3 := (fun l4 h => f_Pairs_rankOthers_3 l0 l1 l2 l3 n l4 h)) C ih FU (0 : Int32) h hM _ _ _ hS (lv_sub hl [1, 2, 3, 4, 5, 0] rfl)
def f_Pairs_rankOthers (h : Hp) (l0 : Nat) (l1 : Nat) (l2 : Nat) (l3 : Int32) : Option Hp :=
  ck h 5 l0 (
    f_Pairs_rankOthers_3 l0 l1 l2 l3 FU (0 : Int32) h
  )
theorem o_Pairs_rankOthers {h : Hp} {l0 : Nat} {l1 : Nat} {l2 : Nat} {l3 : Int32} {r : Hp} (hM : f_Pairs_rankOthers h l0 l1 l2 l3 = some r) : isO h 5 l0 = true := by
  unfold f_Pairs_rankOthers at hM
  exact (ck_some hM).1
set_option maxHeartbeats 4000000 in
set_option maxRecDepth 100000 in
theorem t_Pairs_rankOthers {h : Hp} {l0 : Nat} {l1 : Nat} {l2 : Nat} {l3 : Int32} {r : Hp} (C : Cx base D cI cZ b_Pairs_rankOthers 9 "MovedFolders$Pairs" "rankOthers" none p s m args meth c) (hM : f_Pairs_rankOthers h l0 l1 l2 l3 = some r) (H : Heap) (locs : List Loc) (ls : Array Slot) (hS : RS base D cI cZ s H locs h) (hl : lv_has ls 9 [(0, .ref (base + l0)), (1, .ref (base + l1)), (2, .ref (base + l2)), (3, .int l3)]) : Wg l base D cI cZ 4 97 0 0 r none p e s m args below meth c H locs 0 0 (F0 m 0 ls []) := by
  have hx := C.1
  have hb := C.2.1
  unfold f_Pairs_rankOthers at hM
  replace hM := (ck_some hM).2
  refine lv_iconst (v := (0 : Int32)) hx hb d_Pairs_rankOthers_0 (by decide) ?_
  refine lv_istore (lv' := [(4, .int (0 : Int32)), (0, .ref (base + l0)), (1, .ref (base + l1)), (2, .ref (base + l2)), (3, .int l3)]) hx hb d_Pairs_rankOthers_1 hl (by decide) rfl (fun ls hl => ?_)
  exact t_Pairs_rankOthers_3  C  FU (0 : Int32) h hM _ _ _ hS (lv_sub hl [1, 2, 3, 4, 0] rfl)
theorem c_Pairs_rankOthers (l : Launch) (base : Nat) (D : va_G) (cI cZ : ClassId) (h : Hp) (l0 : Nat) (l1 : Nat) (l2 : Nat) (l3 : Int32) {r : Hp} (hM : f_Pairs_rankOthers h l0 l1 l2 l3 = some r) : Ct l base D cI cZ y_Pairs_rankOthers b_Pairs_rankOthers 9 none 4 97 0 0 h [.ref (base + l0), .ref (base + l1), .ref (base + l2), .int l3] r none :=
  ct_of (by decide) (Nat.le_of_ble_eq_true rfl) (fun p e s m below meth c ls C hS hl => t_Pairs_rankOthers C hM _ _ _ hS hl)
theorem d_Pairs_joinBest_0 : decode b_Pairs_joinBest 0 = .ok (.iconst 0, 1) := by decide +kernel
theorem d_Pairs_joinBest_1 : decode b_Pairs_joinBest 1 = .ok (.istore_n 3, 1) := by decide +kernel
theorem d_Pairs_joinBest_2 : decode b_Pairs_joinBest 2 = .ok (.bipush (-6), 2) := by decide +kernel
theorem d_Pairs_joinBest_4 : decode b_Pairs_joinBest 4 = .ok (.istore 4, 2) := by decide +kernel
theorem d_Pairs_joinBest_6 : decode b_Pairs_joinBest 6 = .ok (.bipush (-6), 2) := by decide +kernel
theorem d_Pairs_joinBest_8 : decode b_Pairs_joinBest 8 = .ok (.istore 5, 2) := by decide +kernel
theorem d_Pairs_joinBest_10 : decode b_Pairs_joinBest 10 = .ok (.iconst 0, 1) := by decide +kernel
theorem d_Pairs_joinBest_11 : decode b_Pairs_joinBest 11 = .ok (.istore 6, 2) := by decide +kernel
theorem d_Pairs_joinBest_13 : decode b_Pairs_joinBest 13 = .ok (.iload 6, 2) := by decide +kernel
theorem d_Pairs_joinBest_15 : decode b_Pairs_joinBest 15 = .ok (.aload_n 1, 1) := by decide +kernel
theorem d_Pairs_joinBest_16 : decode b_Pairs_joinBest 16 = .ok (.invokevirtual 24, 3) := by decide +kernel
theorem d_Pairs_joinBest_19 : decode b_Pairs_joinBest 19 = .ok (.if_icmp .ge 83, 3) := by decide +kernel
theorem d_Pairs_joinBest_22 : decode b_Pairs_joinBest 22 = .ok (.iconst 0, 1) := by decide +kernel
theorem d_Pairs_joinBest_23 : decode b_Pairs_joinBest 23 = .ok (.istore 7, 2) := by decide +kernel
theorem d_Pairs_joinBest_25 : decode b_Pairs_joinBest 25 = .ok (.aload_n 0, 1) := by decide +kernel
theorem d_Pairs_joinBest_26 : decode b_Pairs_joinBest 26 = .ok (.getfield 9, 3) := by decide +kernel
theorem d_Pairs_joinBest_29 : decode b_Pairs_joinBest 29 = .ok (.iload 6, 2) := by decide +kernel
theorem d_Pairs_joinBest_31 : decode b_Pairs_joinBest 31 = .ok (.iaload, 1) := by decide +kernel
theorem d_Pairs_joinBest_32 : decode b_Pairs_joinBest 32 = .ok (.bipush (-6), 2) := by decide +kernel
theorem d_Pairs_joinBest_34 : decode b_Pairs_joinBest 34 = .ok (.if_icmp .ne 62, 3) := by decide +kernel
theorem d_Pairs_joinBest_37 : decode b_Pairs_joinBest 37 = .ok (.iload 7, 2) := by decide +kernel
theorem d_Pairs_joinBest_39 : decode b_Pairs_joinBest 39 = .ok (.aload_n 2, 1) := by decide +kernel
theorem d_Pairs_joinBest_40 : decode b_Pairs_joinBest 40 = .ok (.invokevirtual 24, 3) := by decide +kernel
theorem d_Pairs_joinBest_43 : decode b_Pairs_joinBest 43 = .ok (.if_icmp .ge 53, 3) := by decide +kernel
theorem d_Pairs_joinBest_46 : decode b_Pairs_joinBest 46 = .ok (.aload_n 0, 1) := by decide +kernel
theorem d_Pairs_joinBest_47 : decode b_Pairs_joinBest 47 = .ok (.getfield 21, 3) := by decide +kernel
theorem d_Pairs_joinBest_50 : decode b_Pairs_joinBest 50 = .ok (.iload 6, 2) := by decide +kernel
theorem d_Pairs_joinBest_52 : decode b_Pairs_joinBest 52 = .ok (.bipush 12, 2) := by decide +kernel
theorem d_Pairs_joinBest_54 : decode b_Pairs_joinBest 54 = .ok (.imul, 1) := by decide +kernel
theorem d_Pairs_joinBest_55 : decode b_Pairs_joinBest 55 = .ok (.iload 7, 2) := by decide +kernel
theorem d_Pairs_joinBest_57 : decode b_Pairs_joinBest 57 = .ok (.iadd, 1) := by decide +kernel
theorem d_Pairs_joinBest_58 : decode b_Pairs_joinBest 58 = .ok (.iaload, 1) := by decide +kernel
theorem d_Pairs_joinBest_59 : decode b_Pairs_joinBest 59 = .ok (.istore 8, 2) := by decide +kernel
theorem d_Pairs_joinBest_61 : decode b_Pairs_joinBest 61 = .ok (.aload_n 0, 1) := by decide +kernel
theorem d_Pairs_joinBest_62 : decode b_Pairs_joinBest 62 = .ok (.getfield 18, 3) := by decide +kernel
theorem d_Pairs_joinBest_65 : decode b_Pairs_joinBest 65 = .ok (.iload 7, 2) := by decide +kernel
theorem d_Pairs_joinBest_67 : decode b_Pairs_joinBest 67 = .ok (.iaload, 1) := by decide +kernel
theorem d_Pairs_joinBest_68 : decode b_Pairs_joinBest 68 = .ok (.bipush (-6), 2) := by decide +kernel
theorem d_Pairs_joinBest_70 : decode b_Pairs_joinBest 70 = .ok (.if_icmp .ne 20, 3) := by decide +kernel
theorem d_Pairs_joinBest_73 : decode b_Pairs_joinBest 73 = .ok (.iload 8, 2) := by decide +kernel
theorem d_Pairs_joinBest_75 : decode b_Pairs_joinBest 75 = .ok (.iload_n 3, 1) := by decide +kernel
theorem d_Pairs_joinBest_76 : decode b_Pairs_joinBest 76 = .ok (.if_icmp .le 14, 3) := by decide +kernel
theorem d_Pairs_joinBest_79 : decode b_Pairs_joinBest 79 = .ok (.iload 8, 2) := by decide +kernel
theorem d_Pairs_joinBest_81 : decode b_Pairs_joinBest 81 = .ok (.istore_n 3, 1) := by decide +kernel
theorem d_Pairs_joinBest_82 : decode b_Pairs_joinBest 82 = .ok (.iload 6, 2) := by decide +kernel
theorem d_Pairs_joinBest_84 : decode b_Pairs_joinBest 84 = .ok (.istore 4, 2) := by decide +kernel
theorem d_Pairs_joinBest_86 : decode b_Pairs_joinBest 86 = .ok (.iload 7, 2) := by decide +kernel
theorem d_Pairs_joinBest_88 : decode b_Pairs_joinBest 88 = .ok (.istore 5, 2) := by decide +kernel
theorem d_Pairs_joinBest_90 : decode b_Pairs_joinBest 90 = .ok (.iinc 7 1, 3) := by decide +kernel
theorem d_Pairs_joinBest_93 : decode b_Pairs_joinBest 93 = .ok (.goto (-68), 3) := by decide +kernel
theorem d_Pairs_joinBest_96 : decode b_Pairs_joinBest 96 = .ok (.iinc 6 1, 3) := by decide +kernel
theorem d_Pairs_joinBest_99 : decode b_Pairs_joinBest 99 = .ok (.goto (-86), 3) := by decide +kernel
theorem d_Pairs_joinBest_102 : decode b_Pairs_joinBest 102 = .ok (.iload_n 3, 1) := by decide +kernel
theorem d_Pairs_joinBest_103 : decode b_Pairs_joinBest 103 = .ok (.ifCond .ne 5, 3) := by decide +kernel
theorem d_Pairs_joinBest_106 : decode b_Pairs_joinBest 106 = .ok (.iconst 0, 1) := by decide +kernel
theorem d_Pairs_joinBest_107 : decode b_Pairs_joinBest 107 = .ok (.ireturn, 1) := by decide +kernel
theorem d_Pairs_joinBest_108 : decode b_Pairs_joinBest 108 = .ok (.aload_n 1, 1) := by decide +kernel
theorem d_Pairs_joinBest_109 : decode b_Pairs_joinBest 109 = .ok (.iload 4, 2) := by decide +kernel
theorem d_Pairs_joinBest_111 : decode b_Pairs_joinBest 111 = .ok (.invokevirtual 62, 3) := by decide +kernel
theorem d_Pairs_joinBest_114 : decode b_Pairs_joinBest 114 = .ok (.aload_n 2, 1) := by decide +kernel
theorem d_Pairs_joinBest_115 : decode b_Pairs_joinBest 115 = .ok (.iload 5, 2) := by decide +kernel
theorem d_Pairs_joinBest_117 : decode b_Pairs_joinBest 117 = .ok (.invokevirtual 62, 3) := by decide +kernel
theorem d_Pairs_joinBest_120 : decode b_Pairs_joinBest 120 = .ok (.if_icmp .ne 7, 3) := by decide +kernel
theorem d_Pairs_joinBest_123 : decode b_Pairs_joinBest 123 = .ok (.iconst 1, 1) := by decide +kernel
theorem d_Pairs_joinBest_124 : decode b_Pairs_joinBest 124 = .ok (.goto 4, 3) := by decide +kernel
theorem d_Pairs_joinBest_127 : decode b_Pairs_joinBest 127 = .ok (.iconst 0, 1) := by decide +kernel
theorem d_Pairs_joinBest_128 : decode b_Pairs_joinBest 128 = .ok (.istore 6, 2) := by decide +kernel
theorem d_Pairs_joinBest_130 : decode b_Pairs_joinBest 130 = .ok (.aload_n 0, 1) := by decide +kernel
theorem d_Pairs_joinBest_131 : decode b_Pairs_joinBest 131 = .ok (.iload 4, 2) := by decide +kernel
theorem d_Pairs_joinBest_133 : decode b_Pairs_joinBest 133 = .ok (.iload 5, 2) := by decide +kernel
theorem d_Pairs_joinBest_135 : decode b_Pairs_joinBest 135 = .ok (.iload 6, 2) := by decide +kernel
theorem d_Pairs_joinBest_137 : decode b_Pairs_joinBest 137 = .ok (.ifCond .eq 7, 3) := by decide +kernel
theorem d_Pairs_joinBest_140 : decode b_Pairs_joinBest 140 = .ok (.iconst 1, 1) := by decide +kernel
theorem d_Pairs_joinBest_141 : decode b_Pairs_joinBest 141 = .ok (.goto 4, 3) := by decide +kernel
theorem d_Pairs_joinBest_144 : decode b_Pairs_joinBest 144 = .ok (.iconst 2, 1) := by decide +kernel
theorem d_Pairs_joinBest_145 : decode b_Pairs_joinBest 145 = .ok (.invokevirtual 58, 3) := by decide +kernel
theorem d_Pairs_joinBest_148 : decode b_Pairs_joinBest 148 = .ok (.iconst 1, 1) := by decide +kernel
theorem d_Pairs_joinBest_149 : decode b_Pairs_joinBest 149 = .ok (.ireturn, 1) := by decide +kernel
def f_Pairs_joinBest_25 (h : Hp) (l0 : Nat) (l1 : Nat) (l2 : Nat) (l6 : Int32) (k13 : Int32 → Int32 → Int32 → Int32 → Option (Int32 × Hp)) : Nat → Int32 → Int32 → Int32 → Int32 → Option (Int32 × Hp)
  | 0, _, _, _, _ => none
  | n + 1, l3, l4, l5, l7 =>
    (gR h 5 l0 0).bind fun t7 =>
    (gA h false t7 l6).bind fun t8 =>
    if t8 = (-6 : Int32) then (
      (f_Tree_size h l2).bind fun t9 =>
      if t9 ≤ l7 then (
        k13 l3 l4 l5 (l6 + (1 : Int32))
      ) else (
        (gR h 5 l0 3).bind fun t10 =>
        (gA h false t10 ((l6 * (12 : Int32)) + l7)).bind fun t11 =>
        (gR h 5 l0 2).bind fun t12 =>
        (gA h false t12 l7).bind fun t13 =>
        (
          if t13 = (-6 : Int32) then (
            if t11 ≤ l3 then (
              some (l3, l4, l5)
            ) else (
              some (t11, l6, l7)
            )
          ) else (
            some (l3, l4, l5)
          )
        ).bind fun q14 =>
        f_Pairs_joinBest_25 h l0 l1 l2 l6 k13 n q14.1 q14.2.1 q14.2.2 (l7 + (1 : Int32))
      )
    ) else (
      k13 l3 l4 l5 (l6 + (1 : Int32))
    )
set_option maxHeartbeats 4000000 in
set_option maxRecDepth 100000 in
theorem t_Pairs_joinBest_25 {h : Hp} {l0 : Nat} {l1 : Nat} {l2 : Nat} {l6 : Int32} {k13 : Int32 → Int32 → Int32 → Int32 → Option (Int32 × Hp)} {r : (Int32 × Hp)} (C : Cx base D cI cZ b_Pairs_joinBest 9 "MovedFolders$Pairs" "joinBest" (some .boolean) p s m args meth c) (hk13 : ∀ (l3 : Int32) (l4 : Int32) (l5 : Int32) (l6 : Int32), k13 l3 l4 l5 l6 = some r → ∀ (H : Heap) (locs : List Loc) (ls : Array Slot), RS base D cI cZ s H locs h → lv_has ls 9 [(0, .ref (base + l0)), (1, .ref (base + l1)), (2, .ref (base + l2)), (3, .int l3), (4, .int l4), (5, .int l5), (6, .int l6)] → Wg l base D cI cZ 2 42 0 0 r.2 (some (.int r.1)) p e s m args below meth c H locs 0 0 (F0 m 13 ls [])) : ∀ (n : Nat) (l3 : Int32) (l4 : Int32) (l5 : Int32) (l7 : Int32), f_Pairs_joinBest_25 h l0 l1 l2 l6 k13 n l3 l4 l5 l7 = some r → ∀ (H : Heap) (locs : List Loc) (ls : Array Slot), RS base D cI cZ s H locs h → lv_has ls 9 [(0, .ref (base + l0)), (1, .ref (base + l1)), (2, .ref (base + l2)), (3, .int l3), (4, .int l4), (5, .int l5), (6, .int l6), (7, .int l7)] → Wg l base D cI cZ 2 42 0 0 r.2 (some (.int r.1)) p e s m args below meth c H locs 0 0 (F0 m 25 ls []) := by
  have hx := C.1
  have hb := C.2.1
  intro n
  induction n with
  | zero =>
    intro l3 l4 l5 l7 hM
    rw [f_Pairs_joinBest_25] at hM
    cases hM
  | succ n ih =>
    intro l3 l4 l5 l7 hM H locs ls hS hl
    rw [f_Pairs_joinBest_25] at hM
    refine lv_aload_n hx hb d_Pairs_joinBest_25 rfl (lv_at hl 0 rfl) ?_
    obtain ⟨t7, et7, hM⟩ := bS hM
    refine r_getR C hS fl_Pairs_9 et7 d_Pairs_joinBest_26 ?_
    refine lv_iload hx hb d_Pairs_joinBest_29 (lv_at hl 6 rfl) ?_
    obtain ⟨t8, et8, hM⟩ := bS hM
    refine r_iald C hS et8 d_Pairs_joinBest_31 ?_
    refine lv_bipush (v := (-6 : Int32)) hx hb d_Pairs_joinBest_32 (by decide) ?_
    refine lv_icmp_ne (tgt := 96) hx hb d_Pairs_joinBest_34 (by decide) (fun c34_7 => ?_) (fun c34_7 => ?_)
    · rw [if_neg c34_7] at hM
      refine lv_iinc (v := (l6 + (1 : Int32))) (lv' := [(6, .int (l6 + (1 : Int32))), (0, .ref (base + l0)), (1, .ref (base + l1)), (2, .ref (base + l2)), (3, .int l3), (4, .int l4), (5, .int l5), (7, .int l7)]) hx hb d_Pairs_joinBest_96 hl (k := 6) rfl (by rw [oi_1]) (by decide) rfl (fun ls hl => ?_)
      refine lv_goto (tgt := 13) hx hb d_Pairs_joinBest_99 (by decide) ?_
      exact hk13 l3 l4 l5 (l6 + (1 : Int32)) hM _ _ _ hS (lv_sub hl [1, 2, 3, 4, 5, 6, 0] rfl)
    · rw [if_pos c34_7] at hM
      refine lv_iload hx hb d_Pairs_joinBest_37 (lv_at hl 7 rfl) ?_
      refine lv_aload_n hx hb d_Pairs_joinBest_39 rfl (lv_at hl 2 rfl) ?_
      obtain ⟨t9, et9, hM⟩ := bS hM
      refine r_callVi (x := t9) C hS cv_Pairs_24 (c_Tree_size l base D cI cZ h l2 et9) (o_Tree_size et9) (rest := [.int l7]) rfl hl.1 rfl (Nat.le_of_ble_eq_true rfl) ⟨(Nat.le_of_ble_eq_true rfl), (Nat.le_of_ble_eq_true rfl)⟩ ⟨(Nat.le_of_ble_eq_true rfl), (Nat.le_of_ble_eq_true rfl)⟩ d_Pairs_joinBest_40 (fun H locs hS => ?_)
      refine lv_icmp_ge (tgt := 96) hx hb d_Pairs_joinBest_43 (by decide) (fun c43_8 => ?_) (fun c43_8 => ?_)
      · rw [if_pos c43_8] at hM
        refine lv_iinc (v := (l6 + (1 : Int32))) (lv' := [(6, .int (l6 + (1 : Int32))), (0, .ref (base + l0)), (1, .ref (base + l1)), (2, .ref (base + l2)), (3, .int l3), (4, .int l4), (5, .int l5), (7, .int l7)]) hx hb d_Pairs_joinBest_96 hl (k := 6) rfl (by rw [oi_1]) (by decide) rfl (fun ls hl => ?_)
        refine lv_goto (tgt := 13) hx hb d_Pairs_joinBest_99 (by decide) ?_
        exact hk13 l3 l4 l5 (l6 + (1 : Int32)) hM _ _ _ hS (lv_sub hl [1, 2, 3, 4, 5, 6, 0] rfl)
      · rw [if_neg c43_8] at hM
        refine lv_aload_n hx hb d_Pairs_joinBest_46 rfl (lv_at hl 0 rfl) ?_
        obtain ⟨t10, et10, hM⟩ := bS hM
        refine r_getR C hS fl_Pairs_21 et10 d_Pairs_joinBest_47 ?_
        refine lv_iload hx hb d_Pairs_joinBest_50 (lv_at hl 6 rfl) ?_
        refine lv_bipush (v := (12 : Int32)) hx hb d_Pairs_joinBest_52 (by decide) ?_
        refine lv_imul hx hb d_Pairs_joinBest_54 ?_
        refine lv_iload hx hb d_Pairs_joinBest_55 (lv_at hl 7 rfl) ?_
        refine lv_iadd hx hb d_Pairs_joinBest_57 ?_
        obtain ⟨t11, et11, hM⟩ := bS hM
        refine r_iald C hS et11 d_Pairs_joinBest_58 ?_
        refine lv_istore (lv' := [(8, .int t11), (0, .ref (base + l0)), (1, .ref (base + l1)), (2, .ref (base + l2)), (3, .int l3), (4, .int l4), (5, .int l5), (6, .int l6), (7, .int l7)]) hx hb d_Pairs_joinBest_59 hl (by decide) rfl (fun ls hl => ?_)
        refine lv_aload_n hx hb d_Pairs_joinBest_61 rfl (lv_at hl 1 rfl) ?_
        obtain ⟨t12, et12, hM⟩ := bS hM
        refine r_getR C hS fl_Pairs_18 et12 d_Pairs_joinBest_62 ?_
        refine lv_iload hx hb d_Pairs_joinBest_65 (lv_at hl 8 rfl) ?_
        obtain ⟨t13, et13, hM⟩ := bS hM
        refine r_iald C hS et13 d_Pairs_joinBest_67 ?_
        refine lv_bipush (v := (-6 : Int32)) hx hb d_Pairs_joinBest_68 (by decide) ?_
        obtain ⟨q14, eq14, hM⟩ := bS hM
        have kJ90_9 : ∀ (H : Heap) (locs : List Loc) (ls : Array Slot), RS base D cI cZ s H locs h → lv_has ls 9 [(0, .ref (base + l0)), (1, .ref (base + l1)), (2, .ref (base + l2)), (3, .int q14.1), (4, .int q14.2.1), (5, .int q14.2.2), (6, .int l6), (7, .int l7)] → Wg l base D cI cZ 2 42 0 0 r.2 (some (.int r.1)) p e s m args below meth c H locs 0 0 (F0 m 90 ls []) := by
          intro H locs ls hS hl
          refine lv_iinc (v := (l7 + (1 : Int32))) (lv' := [(7, .int (l7 + (1 : Int32))), (0, .ref (base + l0)), (1, .ref (base + l1)), (2, .ref (base + l2)), (3, .int q14.1), (4, .int q14.2.1), (5, .int q14.2.2), (6, .int l6)]) hx hb d_Pairs_joinBest_90 hl (k := 7) rfl (by rw [oi_1]) (by decide) rfl (fun ls hl => ?_)
          refine lv_goto (tgt := 25) hx hb d_Pairs_joinBest_93 (by decide) ?_
          exact ih q14.1 q14.2.1 q14.2.2 (l7 + (1 : Int32)) hM _ _ _ hS (lv_sub hl [1, 2, 3, 4, 5, 6, 7, 0] rfl)
        refine lv_icmp_ne (tgt := 90) hx hb d_Pairs_joinBest_70 (by decide) (fun c70_10 => ?_) (fun c70_10 => ?_)
        · rw [if_neg c70_10] at eq14
          obtain rfl := Option.some.inj eq14
          exact kJ90_9 _ _ _ hS (lv_sub hl [1, 2, 3, 4, 5, 6, 7, 8] rfl)
        · rw [if_pos c70_10] at eq14
          refine lv_iload hx hb d_Pairs_joinBest_73 (lv_at hl 0 rfl) ?_
          refine lv_iload_n hx hb d_Pairs_joinBest_75 rfl (lv_at hl 4 rfl) ?_
          refine lv_icmp_le (tgt := 90) hx hb d_Pairs_joinBest_76 (by decide) (fun c76_11 => ?_) (fun c76_11 => ?_)
          · rw [if_pos c76_11] at eq14
            obtain rfl := Option.some.inj eq14
            exact kJ90_9 _ _ _ hS (lv_sub hl [1, 2, 3, 4, 5, 6, 7, 8] rfl)
          · rw [if_neg c76_11] at eq14
            refine lv_iload hx hb d_Pairs_joinBest_79 (lv_at hl 0 rfl) ?_
            refine lv_istore_n (lv' := [(3, .int t11), (8, .int t11), (0, .ref (base + l0)), (1, .ref (base + l1)), (2, .ref (base + l2)), (4, .int l4), (5, .int l5), (6, .int l6), (7, .int l7)]) hx hb d_Pairs_joinBest_81 rfl hl (by decide) rfl (fun ls hl => ?_)
            refine lv_iload hx hb d_Pairs_joinBest_82 (lv_at hl 7 rfl) ?_
            refine lv_istore (lv' := [(4, .int l6), (3, .int t11), (8, .int t11), (0, .ref (base + l0)), (1, .ref (base + l1)), (2, .ref (base + l2)), (5, .int l5), (6, .int l6), (7, .int l7)]) hx hb d_Pairs_joinBest_84 hl (by decide) rfl (fun ls hl => ?_)
            refine lv_iload hx hb d_Pairs_joinBest_86 (lv_at hl 8 rfl) ?_
            refine lv_istore (lv' := [(5, .int l7), (4, .int l6), (3, .int t11), (8, .int t11), (0, .ref (base + l0)), (1, .ref (base + l1)), (2, .ref (base + l2)), (6, .int l6), (7, .int l7)]) hx hb d_Pairs_joinBest_88 hl (by decide) rfl (fun ls hl => ?_)
            obtain rfl := Option.some.inj eq14
            exact kJ90_9 _ _ _ hS (lv_sub hl [4, 5, 6, 2, 1, 0, 7, 8] rfl)
def f_Pairs_joinBest_13 (h : Hp) (l0 : Nat) (l1 : Nat) (l2 : Nat) : Nat → Int32 → Int32 → Int32 → Int32 → Option (Int32 × Hp)
  | 0, _, _, _, _ => none
  | n + 1, l3, l4, l5, l6 =>
    (f_Tree_size h l1).bind fun t1 =>
    if t1 ≤ l6 then (
      if l3 = (0 : Int32) then (
        (rz (0 : Int32)).bind fun t6 => some (t6, h)
      ) else (
        (f_Tree_contentAt h l1 l4).bind fun t2 =>
        (f_Tree_contentAt h l2 l5).bind fun t3 =>
        (f_Pairs_join h l0 l4 l5 (if (if t2 = t3 then ((1 : Int32)) else ((0 : Int32))) = (0 : Int32) then ((2 : Int32)) else ((1 : Int32)))).bind fun h4 =>
        (rz (1 : Int32)).bind fun t5 => some (t5, h4)
      )
    ) else (
      f_Pairs_joinBest_25 h l0 l1 l2 l6 (fun l3 l4 l5 l6 => f_Pairs_joinBest_13 h l0 l1 l2 n l3 l4 l5 l6) FU l3 l4 l5 (0 : Int32)
    )
set_option maxHeartbeats 4000000 in
set_option maxRecDepth 100000 in
theorem t_Pairs_joinBest_13 {h : Hp} {l0 : Nat} {l1 : Nat} {l2 : Nat} {r : (Int32 × Hp)} (C : Cx base D cI cZ b_Pairs_joinBest 9 "MovedFolders$Pairs" "joinBest" (some .boolean) p s m args meth c)  : ∀ (n : Nat) (l3 : Int32) (l4 : Int32) (l5 : Int32) (l6 : Int32), f_Pairs_joinBest_13 h l0 l1 l2 n l3 l4 l5 l6 = some r → ∀ (H : Heap) (locs : List Loc) (ls : Array Slot), RS base D cI cZ s H locs h → lv_has ls 9 [(0, .ref (base + l0)), (1, .ref (base + l1)), (2, .ref (base + l2)), (3, .int l3), (4, .int l4), (5, .int l5), (6, .int l6)] → Wg l base D cI cZ 2 42 0 0 r.2 (some (.int r.1)) p e s m args below meth c H locs 0 0 (F0 m 13 ls []) := by
  have hx := C.1
  have hb := C.2.1
  intro n
  induction n with
  | zero =>
    intro l3 l4 l5 l6 hM
    rw [f_Pairs_joinBest_13] at hM
    cases hM
  | succ n ih =>
    intro l3 l4 l5 l6 hM H locs ls hS hl
    rw [f_Pairs_joinBest_13] at hM
    refine lv_iload hx hb d_Pairs_joinBest_13 (lv_at hl 6 rfl) ?_
    refine lv_aload_n hx hb d_Pairs_joinBest_15 rfl (lv_at hl 1 rfl) ?_
    obtain ⟨t1, et1, hM⟩ := bS hM
    refine r_callVi (x := t1) C hS cv_Pairs_24 (c_Tree_size l base D cI cZ h l1 et1) (o_Tree_size et1) (rest := [.int l6]) rfl hl.1 rfl (Nat.le_of_ble_eq_true rfl) ⟨(Nat.le_of_ble_eq_true rfl), (Nat.le_of_ble_eq_true rfl)⟩ ⟨(Nat.le_of_ble_eq_true rfl), (Nat.le_of_ble_eq_true rfl)⟩ d_Pairs_joinBest_16 (fun H locs hS => ?_)
    refine lv_icmp_ge (tgt := 102) hx hb d_Pairs_joinBest_19 (by decide) (fun c19_1 => ?_) (fun c19_1 => ?_)
    · rw [if_pos c19_1] at hM
      refine lv_iload_n hx hb d_Pairs_joinBest_102 rfl (lv_at hl 3 rfl) ?_
      refine lv_if_ne (tgt := 108) hx hb d_Pairs_joinBest_103 (by decide) (fun c103_2 => ?_) (fun c103_2 => ?_)
      · rw [if_neg c103_2] at hM
        refine lv_aload_n hx hb d_Pairs_joinBest_108 rfl (lv_at hl 1 rfl) ?_
        refine lv_iload hx hb d_Pairs_joinBest_109 (lv_at hl 4 rfl) ?_
        obtain ⟨t2, et2, hM⟩ := bS hM
        refine r_callVi (x := t2) C hS cv_Pairs_62 (c_Tree_contentAt l base D cI cZ h l1 l4 et2) (o_Tree_contentAt et2) (rest := []) rfl hl.1 rfl (Nat.le_of_ble_eq_true rfl) ⟨(Nat.le_of_ble_eq_true rfl), (Nat.le_of_ble_eq_true rfl)⟩ ⟨(Nat.le_of_ble_eq_true rfl), (Nat.le_of_ble_eq_true rfl)⟩ d_Pairs_joinBest_111 (fun H locs hS => ?_)
        refine lv_aload_n hx hb d_Pairs_joinBest_114 rfl (lv_at hl 2 rfl) ?_
        refine lv_iload hx hb d_Pairs_joinBest_115 (lv_at hl 5 rfl) ?_
        obtain ⟨t3, et3, hM⟩ := bS hM
        refine r_callVi (x := t3) C hS cv_Pairs_62 (c_Tree_contentAt l base D cI cZ h l2 l5 et3) (o_Tree_contentAt et3) (rest := [.int t2]) rfl hl.1 rfl (Nat.le_of_ble_eq_true rfl) ⟨(Nat.le_of_ble_eq_true rfl), (Nat.le_of_ble_eq_true rfl)⟩ ⟨(Nat.le_of_ble_eq_true rfl), (Nat.le_of_ble_eq_true rfl)⟩ d_Pairs_joinBest_117 (fun H locs hS => ?_)
        have kJ128_3 : ∀ (H : Heap) (locs : List Loc) (ls : Array Slot), RS base D cI cZ s H locs h → lv_has ls 9 [(0, .ref (base + l0)), (4, .int l4), (5, .int l5)] → Wg l base D cI cZ 2 42 0 0 r.2 (some (.int r.1)) p e s m args below meth c H locs 0 0 (F0 m 128 ls [.int (if t2 = t3 then ((1 : Int32)) else ((0 : Int32)))]) := by
          intro H locs ls hS hl
          refine lv_istore (lv' := [(6, .int (if t2 = t3 then ((1 : Int32)) else ((0 : Int32)))), (0, .ref (base + l0)), (4, .int l4), (5, .int l5)]) hx hb d_Pairs_joinBest_128 hl (by decide) rfl (fun ls hl => ?_)
          refine lv_aload_n hx hb d_Pairs_joinBest_130 rfl (lv_at hl 1 rfl) ?_
          refine lv_iload hx hb d_Pairs_joinBest_131 (lv_at hl 2 rfl) ?_
          refine lv_iload hx hb d_Pairs_joinBest_133 (lv_at hl 3 rfl) ?_
          refine lv_iload hx hb d_Pairs_joinBest_135 (lv_at hl 0 rfl) ?_
          have kJ145_5 : ∀ (H : Heap) (locs : List Loc) (ls : Array Slot), RS base D cI cZ s H locs h → lv_has ls 9 [] → Wg l base D cI cZ 2 42 0 0 r.2 (some (.int r.1)) p e s m args below meth c H locs 0 0 (F0 m 145 ls [.int (if (if t2 = t3 then ((1 : Int32)) else ((0 : Int32))) = (0 : Int32) then ((2 : Int32)) else ((1 : Int32))), .int l5, .int l4, .ref (base + l0)]) := by
            intro H locs ls hS hl
            obtain ⟨h4, eh4, hM⟩ := bS hM
            refine r_callVv C hS cv_Pairs_58 (c_Pairs_join l base D cI cZ h l0 l4 l5 (if (if t2 = t3 then ((1 : Int32)) else ((0 : Int32))) = (0 : Int32) then ((2 : Int32)) else ((1 : Int32))) eh4) (o_Pairs_join eh4) (rest := []) rfl hl.1 rfl (Nat.le_of_ble_eq_true rfl) ⟨(Nat.le_of_ble_eq_true rfl), (Nat.le_of_ble_eq_true rfl)⟩ ⟨(Nat.le_of_ble_eq_true rfl), (Nat.le_of_ble_eq_true rfl)⟩ d_Pairs_joinBest_145 (fun H locs hS => ?_)
            refine lv_iconst (v := (1 : Int32)) hx hb d_Pairs_joinBest_148 (by decide) ?_
            obtain ⟨t5, et5, hM⟩ := bS hM
            obtain rfl := Option.some.inj hM
            exact r_zret C hS et5 d_Pairs_joinBest_149
          refine lv_if_eq (tgt := 144) hx hb d_Pairs_joinBest_137 (by decide) (fun c137_6 => ?_) (fun c137_6 => ?_)
          · rw [if_pos c137_6] at kJ145_5
            refine lv_iconst (v := (2 : Int32)) hx hb d_Pairs_joinBest_144 (by decide) ?_
            exact kJ145_5 _ _ _ hS (lv_sub hl [] rfl)
          · rw [if_neg c137_6] at kJ145_5
            refine lv_iconst (v := (1 : Int32)) hx hb d_Pairs_joinBest_140 (by decide) ?_
            refine lv_goto (tgt := 145) hx hb d_Pairs_joinBest_141 (by decide) ?_
            exact kJ145_5 _ _ _ hS (lv_sub hl [] rfl)
        refine lv_icmp_ne (tgt := 127) hx hb d_Pairs_joinBest_120 (by decide) (fun c120_4 => ?_) (fun c120_4 => ?_)
        · rw [if_neg c120_4] at kJ128_3
          refine lv_iconst (v := (0 : Int32)) hx hb d_Pairs_joinBest_127 (by decide) ?_
          exact kJ128_3 _ _ _ hS (lv_sub hl [0, 4, 5] rfl)
        · rw [if_pos c120_4] at kJ128_3
          refine lv_iconst (v := (1 : Int32)) hx hb d_Pairs_joinBest_123 (by decide) ?_
          refine lv_goto (tgt := 128) hx hb d_Pairs_joinBest_124 (by decide) ?_
          exact kJ128_3 _ _ _ hS (lv_sub hl [0, 4, 5] rfl)
      · rw [if_pos c103_2] at hM
        refine lv_iconst (v := (0 : Int32)) hx hb d_Pairs_joinBest_106 (by decide) ?_
        obtain ⟨t6, et6, hM⟩ := bS hM
        obtain rfl := Option.some.inj hM
        exact r_zret C hS et6 d_Pairs_joinBest_107
    · rw [if_neg c19_1] at hM
      refine lv_iconst (v := (0 : Int32)) hx hb d_Pairs_joinBest_22 (by decide) ?_
      refine lv_istore (lv' := [(7, .int (0 : Int32)), (0, .ref (base + l0)), (1, .ref (base + l1)), (2, .ref (base + l2)), (3, .int l3), (4, .int l4), (5, .int l5), (6, .int l6)]) hx hb d_Pairs_joinBest_23 hl (by decide) rfl (fun ls hl => ?_)
      exact t_Pairs_joinBest_25 (k13 := (fun l3 l4 l5 l6 => f_Pairs_joinBest_13 h l0 l1 l2 n l3 l4 l5 l6)) C ih FU l3 l4 l5 (0 : Int32) hM _ _ _ hS (lv_sub hl [1, 2, 3, 4, 5, 6, 7, 0] rfl)
def f_Pairs_joinBest (h : Hp) (l0 : Nat) (l1 : Nat) (l2 : Nat) : Option (Int32 × Hp) :=
  ck h 5 l0 (
    f_Pairs_joinBest_13 h l0 l1 l2 FU (0 : Int32) (-6 : Int32) (-6 : Int32) (0 : Int32)
  )
theorem o_Pairs_joinBest {h : Hp} {l0 : Nat} {l1 : Nat} {l2 : Nat} {r : (Int32 × Hp)} (hM : f_Pairs_joinBest h l0 l1 l2 = some r) : isO h 5 l0 = true := by
  unfold f_Pairs_joinBest at hM
  exact (ck_some hM).1
set_option maxHeartbeats 4000000 in
set_option maxRecDepth 100000 in
theorem t_Pairs_joinBest {h : Hp} {l0 : Nat} {l1 : Nat} {l2 : Nat} {r : (Int32 × Hp)} (C : Cx base D cI cZ b_Pairs_joinBest 9 "MovedFolders$Pairs" "joinBest" (some .boolean) p s m args meth c) (hM : f_Pairs_joinBest h l0 l1 l2 = some r) (H : Heap) (locs : List Loc) (ls : Array Slot) (hS : RS base D cI cZ s H locs h) (hl : lv_has ls 9 [(0, .ref (base + l0)), (1, .ref (base + l1)), (2, .ref (base + l2))]) : Wg l base D cI cZ 2 42 0 0 r.2 (some (.int r.1)) p e s m args below meth c H locs 0 0 (F0 m 0 ls []) := by
  have hx := C.1
  have hb := C.2.1
  unfold f_Pairs_joinBest at hM
  replace hM := (ck_some hM).2
  refine lv_iconst (v := (0 : Int32)) hx hb d_Pairs_joinBest_0 (by decide) ?_
  refine lv_istore_n (lv' := [(3, .int (0 : Int32)), (0, .ref (base + l0)), (1, .ref (base + l1)), (2, .ref (base + l2))]) hx hb d_Pairs_joinBest_1 rfl hl (by decide) rfl (fun ls hl => ?_)
  refine lv_bipush (v := (-6 : Int32)) hx hb d_Pairs_joinBest_2 (by decide) ?_
  refine lv_istore (lv' := [(4, .int (-6 : Int32)), (3, .int (0 : Int32)), (0, .ref (base + l0)), (1, .ref (base + l1)), (2, .ref (base + l2))]) hx hb d_Pairs_joinBest_4 hl (by decide) rfl (fun ls hl => ?_)
  refine lv_bipush (v := (-6 : Int32)) hx hb d_Pairs_joinBest_6 (by decide) ?_
  refine lv_istore (lv' := [(5, .int (-6 : Int32)), (4, .int (-6 : Int32)), (3, .int (0 : Int32)), (0, .ref (base + l0)), (1, .ref (base + l1)), (2, .ref (base + l2))]) hx hb d_Pairs_joinBest_8 hl (by decide) rfl (fun ls hl => ?_)
  refine lv_iconst (v := (0 : Int32)) hx hb d_Pairs_joinBest_10 (by decide) ?_
  refine lv_istore (lv' := [(6, .int (0 : Int32)), (5, .int (-6 : Int32)), (4, .int (-6 : Int32)), (3, .int (0 : Int32)), (0, .ref (base + l0)), (1, .ref (base + l1)), (2, .ref (base + l2))]) hx hb d_Pairs_joinBest_11 hl (by decide) rfl (fun ls hl => ?_)
  exact t_Pairs_joinBest_13  C  FU (0 : Int32) (-6 : Int32) (-6 : Int32) (0 : Int32) hM _ _ _ hS (lv_sub hl [4, 5, 6, 3, 2, 1, 0] rfl)
theorem c_Pairs_joinBest (l : Launch) (base : Nat) (D : va_G) (cI cZ : ClassId) (h : Hp) (l0 : Nat) (l1 : Nat) (l2 : Nat) {r : (Int32 × Hp)} (hM : f_Pairs_joinBest h l0 l1 l2 = some r) : Ct l base D cI cZ y_Pairs_joinBest b_Pairs_joinBest 9 (some .boolean) 2 42 0 0 h [.ref (base + l0), .ref (base + l1), .ref (base + l2)] r.2 (some (.int r.1)) :=
  ct_of (by decide) (Nat.le_of_ble_eq_true rfl) (fun p e s m below meth c ls C hS hl => t_Pairs_joinBest C hM _ _ _ hS hl)
theorem d_Pairs_find_0 : decode b_Pairs_find 0 = .ok (.iconst 0, 1) := by decide +kernel
theorem d_Pairs_find_1 : decode b_Pairs_find 1 = .ok (.istore 4, 2) := by decide +kernel
theorem d_Pairs_find_3 : decode b_Pairs_find 3 = .ok (.iload 4, 2) := by decide +kernel
theorem d_Pairs_find_5 : decode b_Pairs_find 5 = .ok (.bipush 12, 2) := by decide +kernel
theorem d_Pairs_find_7 : decode b_Pairs_find 7 = .ok (.if_icmp .ge 36, 3) := by decide +kernel
theorem d_Pairs_find_10 : decode b_Pairs_find 10 = .ok (.aload_n 0, 1) := by decide +kernel
theorem d_Pairs_find_11 : decode b_Pairs_find 11 = .ok (.getfield 9, 3) := by decide +kernel
theorem d_Pairs_find_14 : decode b_Pairs_find 14 = .ok (.iload 4, 2) := by decide +kernel
theorem d_Pairs_find_16 : decode b_Pairs_find 16 = .ok (.bipush (-6), 2) := by decide +kernel
theorem d_Pairs_find_18 : decode b_Pairs_find 18 = .ok (.iastore, 1) := by decide +kernel
theorem d_Pairs_find_19 : decode b_Pairs_find 19 = .ok (.aload_n 0, 1) := by decide +kernel
theorem d_Pairs_find_20 : decode b_Pairs_find 20 = .ok (.getfield 15, 3) := by decide +kernel
theorem d_Pairs_find_23 : decode b_Pairs_find 23 = .ok (.iload 4, 2) := by decide +kernel
theorem d_Pairs_find_25 : decode b_Pairs_find 25 = .ok (.bipush (-6), 2) := by decide +kernel
theorem d_Pairs_find_27 : decode b_Pairs_find 27 = .ok (.iastore, 1) := by decide +kernel
theorem d_Pairs_find_28 : decode b_Pairs_find 28 = .ok (.aload_n 0, 1) := by decide +kernel
theorem d_Pairs_find_29 : decode b_Pairs_find 29 = .ok (.getfield 18, 3) := by decide +kernel
theorem d_Pairs_find_32 : decode b_Pairs_find 32 = .ok (.iload 4, 2) := by decide +kernel
theorem d_Pairs_find_34 : decode b_Pairs_find 34 = .ok (.bipush (-6), 2) := by decide +kernel
theorem d_Pairs_find_36 : decode b_Pairs_find 36 = .ok (.iastore, 1) := by decide +kernel
theorem d_Pairs_find_37 : decode b_Pairs_find 37 = .ok (.iinc 4 1, 3) := by decide +kernel
theorem d_Pairs_find_40 : decode b_Pairs_find 40 = .ok (.goto (-37), 3) := by decide +kernel
theorem d_Pairs_find_43 : decode b_Pairs_find 43 = .ok (.aload_n 0, 1) := by decide +kernel
theorem d_Pairs_find_44 : decode b_Pairs_find 44 = .ok (.aload_n 1, 1) := by decide +kernel
theorem d_Pairs_find_45 : decode b_Pairs_find 45 = .ok (.aload_n 2, 1) := by decide +kernel
theorem d_Pairs_find_46 : decode b_Pairs_find 46 = .ok (.invokevirtual 40, 3) := by decide +kernel
theorem d_Pairs_find_49 : decode b_Pairs_find 49 = .ok (.aload_n 0, 1) := by decide +kernel
theorem d_Pairs_find_50 : decode b_Pairs_find 50 = .ok (.aload_n 1, 1) := by decide +kernel
theorem d_Pairs_find_51 : decode b_Pairs_find 51 = .ok (.aload_n 2, 1) := by decide +kernel
theorem d_Pairs_find_52 : decode b_Pairs_find 52 = .ok (.iload_n 3, 1) := by decide +kernel
theorem d_Pairs_find_53 : decode b_Pairs_find 53 = .ok (.invokevirtual 44, 3) := by decide +kernel
theorem d_Pairs_find_56 : decode b_Pairs_find 56 = .ok (.iconst 1, 1) := by decide +kernel
theorem d_Pairs_find_57 : decode b_Pairs_find 57 = .ok (.istore 4, 2) := by decide +kernel
theorem d_Pairs_find_59 : decode b_Pairs_find 59 = .ok (.iconst 0, 1) := by decide +kernel
theorem d_Pairs_find_60 : decode b_Pairs_find 60 = .ok (.istore 5, 2) := by decide +kernel
theorem d_Pairs_find_62 : decode b_Pairs_find 62 = .ok (.iload 5, 2) := by decide +kernel
theorem d_Pairs_find_64 : decode b_Pairs_find 64 = .ok (.bipush 12, 2) := by decide +kernel
theorem d_Pairs_find_66 : decode b_Pairs_find 66 = .ok (.if_icmp .ge 22, 3) := by decide +kernel
theorem d_Pairs_find_69 : decode b_Pairs_find 69 = .ok (.iload 4, 2) := by decide +kernel
theorem d_Pairs_find_71 : decode b_Pairs_find 71 = .ok (.ifCond .eq 17, 3) := by decide +kernel
theorem d_Pairs_find_74 : decode b_Pairs_find 74 = .ok (.aload_n 0, 1) := by decide +kernel
theorem d_Pairs_find_75 : decode b_Pairs_find 75 = .ok (.aload_n 1, 1) := by decide +kernel
theorem d_Pairs_find_76 : decode b_Pairs_find 76 = .ok (.aload_n 2, 1) := by decide +kernel
theorem d_Pairs_find_77 : decode b_Pairs_find 77 = .ok (.invokevirtual 48, 3) := by decide +kernel
theorem d_Pairs_find_80 : decode b_Pairs_find 80 = .ok (.istore 4, 2) := by decide +kernel
theorem d_Pairs_find_82 : decode b_Pairs_find 82 = .ok (.iinc 5 1, 3) := by decide +kernel
theorem d_Pairs_find_85 : decode b_Pairs_find 85 = .ok (.goto (-23), 3) := by decide +kernel
theorem d_Pairs_find_88 : decode b_Pairs_find 88 = .ok (.return_, 1) := by decide +kernel
def f_Pairs_find_62 (l0 : Nat) (l1 : Nat) (l2 : Nat) : Nat → Int32 → Int32 → Hp → Option Hp
  | 0, _, _, _ => none
  | n + 1, l4, l5, h =>
    if (12 : Int32) ≤ l5 then (
      some h
    ) else (
      if l4 = (0 : Int32) then (
        some h
      ) else (
        (f_Pairs_joinBest h l0 l1 l2).bind fun q3 =>
        f_Pairs_find_62 l0 l1 l2 n q3.1 (l5 + (1 : Int32)) q3.2
      )
    )
set_option maxHeartbeats 4000000 in
set_option maxRecDepth 100000 in
theorem t_Pairs_find_62 {l0 : Nat} {l1 : Nat} {l2 : Nat} {r : Hp} (C : Cx base D cI cZ b_Pairs_find 6 "MovedFolders$Pairs" "find" none p s m args meth c)  : ∀ (n : Nat) (l4 : Int32) (l5 : Int32) (h : Hp), f_Pairs_find_62 l0 l1 l2 n l4 l5 h = some r → ∀ (H : Heap) (locs : List Loc) (ls : Array Slot), RS base D cI cZ s H locs h → lv_has ls 6 [(0, .ref (base + l0)), (1, .ref (base + l1)), (2, .ref (base + l2)), (4, .int l4), (5, .int l5)] → Wg l base D cI cZ 5 125 0 0 r none p e s m args below meth c H locs 0 0 (F0 m 62 ls []) := by
  have hx := C.1
  have hb := C.2.1
  intro n
  induction n with
  | zero =>
    intro l4 l5 h hM
    rw [f_Pairs_find_62] at hM
    cases hM
  | succ n ih =>
    intro l4 l5 h hM H locs ls hS hl
    rw [f_Pairs_find_62] at hM
    refine lv_iload hx hb d_Pairs_find_62 (lv_at hl 4 rfl) ?_
    refine lv_bipush (v := (12 : Int32)) hx hb d_Pairs_find_64 (by decide) ?_
    refine lv_icmp_ge (tgt := 88) hx hb d_Pairs_find_66 (by decide) (fun c66_2 => ?_) (fun c66_2 => ?_)
    · rw [if_pos c66_2] at hM
      obtain rfl := Option.some.inj hM
      exact r_vret C hS d_Pairs_find_88
    · rw [if_neg c66_2] at hM
      refine lv_iload hx hb d_Pairs_find_69 (lv_at hl 3 rfl) ?_
      refine lv_if_eq (tgt := 88) hx hb d_Pairs_find_71 (by decide) (fun c71_3 => ?_) (fun c71_3 => ?_)
      · rw [if_pos c71_3] at hM
        obtain rfl := Option.some.inj hM
        exact r_vret C hS d_Pairs_find_88
      · rw [if_neg c71_3] at hM
        refine lv_aload_n hx hb d_Pairs_find_74 rfl (lv_at hl 0 rfl) ?_
        refine lv_aload_n hx hb d_Pairs_find_75 rfl (lv_at hl 1 rfl) ?_
        refine lv_aload_n hx hb d_Pairs_find_76 rfl (lv_at hl 2 rfl) ?_
        obtain ⟨q3, eq3, hM⟩ := bS hM
        refine r_callVi (x := q3.1) C hS cv_Pairs_48 (c_Pairs_joinBest l base D cI cZ h l0 l1 l2 eq3) (o_Pairs_joinBest eq3) (rest := []) rfl hl.1 rfl (Nat.le_of_ble_eq_true rfl) ⟨(Nat.le_of_ble_eq_true rfl), (Nat.le_of_ble_eq_true rfl)⟩ ⟨(Nat.le_of_ble_eq_true rfl), (Nat.le_of_ble_eq_true rfl)⟩ d_Pairs_find_77 (fun H locs hS => ?_)
        refine lv_istore (lv' := [(4, .int q3.1), (0, .ref (base + l0)), (1, .ref (base + l1)), (2, .ref (base + l2)), (5, .int l5)]) hx hb d_Pairs_find_80 hl (by decide) rfl (fun ls hl => ?_)
        refine lv_iinc (v := (l5 + (1 : Int32))) (lv' := [(5, .int (l5 + (1 : Int32))), (4, .int q3.1), (0, .ref (base + l0)), (1, .ref (base + l1)), (2, .ref (base + l2))]) hx hb d_Pairs_find_82 hl (k := 4) rfl (by rw [oi_1]) (by decide) rfl (fun ls hl => ?_)
        refine lv_goto (tgt := 62) hx hb d_Pairs_find_85 (by decide) ?_
        exact ih q3.1 (l5 + (1 : Int32)) q3.2 hM _ _ _ hS (lv_sub hl [2, 3, 4, 1, 0] rfl)
def f_Pairs_find_3 (l0 : Nat) (l1 : Nat) (l2 : Nat) (l3 : Int32) : Nat → Int32 → Hp → Option Hp
  | 0, _, _ => none
  | n + 1, l4, h =>
    if (12 : Int32) ≤ l4 then (
      (f_Pairs_joinStayed h l0 l1 l2).bind fun h1 =>
      (f_Pairs_rankOthers h1 l0 l1 l2 l3).bind fun h2 =>
      f_Pairs_find_62 l0 l1 l2 FU (1 : Int32) (0 : Int32) h2
    ) else (
      (gR h 5 l0 0).bind fun t4 =>
      (sA h t4 l4 (-6 : Int32)).bind fun h5 =>
      (gR h5 5 l0 1).bind fun t6 =>
      (sA h5 t6 l4 (-6 : Int32)).bind fun h7 =>
      (gR h7 5 l0 2).bind fun t8 =>
      (sA h7 t8 l4 (-6 : Int32)).bind fun h9 =>
      f_Pairs_find_3 l0 l1 l2 l3 n (l4 + (1 : Int32)) h9
    )
set_option maxHeartbeats 4000000 in
set_option maxRecDepth 100000 in
theorem t_Pairs_find_3 {l0 : Nat} {l1 : Nat} {l2 : Nat} {l3 : Int32} {r : Hp} (C : Cx base D cI cZ b_Pairs_find 6 "MovedFolders$Pairs" "find" none p s m args meth c)  : ∀ (n : Nat) (l4 : Int32) (h : Hp), f_Pairs_find_3 l0 l1 l2 l3 n l4 h = some r → ∀ (H : Heap) (locs : List Loc) (ls : Array Slot), RS base D cI cZ s H locs h → lv_has ls 6 [(0, .ref (base + l0)), (1, .ref (base + l1)), (2, .ref (base + l2)), (3, .int l3), (4, .int l4)] → Wg l base D cI cZ 5 125 0 0 r none p e s m args below meth c H locs 0 0 (F0 m 3 ls []) := by
  have hx := C.1
  have hb := C.2.1
  intro n
  induction n with
  | zero =>
    intro l4 h hM
    rw [f_Pairs_find_3] at hM
    cases hM
  | succ n ih =>
    intro l4 h hM H locs ls hS hl
    rw [f_Pairs_find_3] at hM
    refine lv_iload hx hb d_Pairs_find_3 (lv_at hl 4 rfl) ?_
    refine lv_bipush (v := (12 : Int32)) hx hb d_Pairs_find_5 (by decide) ?_
    refine lv_icmp_ge (tgt := 43) hx hb d_Pairs_find_7 (by decide) (fun c7_1 => ?_) (fun c7_1 => ?_)
    · rw [if_pos c7_1] at hM
      refine lv_aload_n hx hb d_Pairs_find_43 rfl (lv_at hl 0 rfl) ?_
      refine lv_aload_n hx hb d_Pairs_find_44 rfl (lv_at hl 1 rfl) ?_
      refine lv_aload_n hx hb d_Pairs_find_45 rfl (lv_at hl 2 rfl) ?_
      obtain ⟨h1, eh1, hM⟩ := bS hM
      refine r_callVv C hS cv_Pairs_40 (c_Pairs_joinStayed l base D cI cZ h l0 l1 l2 eh1) (o_Pairs_joinStayed eh1) (rest := []) rfl hl.1 rfl (Nat.le_of_ble_eq_true rfl) ⟨(Nat.le_of_ble_eq_true rfl), (Nat.le_of_ble_eq_true rfl)⟩ ⟨(Nat.le_of_ble_eq_true rfl), (Nat.le_of_ble_eq_true rfl)⟩ d_Pairs_find_46 (fun H locs hS => ?_)
      refine lv_aload_n hx hb d_Pairs_find_49 rfl (lv_at hl 0 rfl) ?_
      refine lv_aload_n hx hb d_Pairs_find_50 rfl (lv_at hl 1 rfl) ?_
      refine lv_aload_n hx hb d_Pairs_find_51 rfl (lv_at hl 2 rfl) ?_
      refine lv_iload_n hx hb d_Pairs_find_52 rfl (lv_at hl 3 rfl) ?_
      obtain ⟨h2, eh2, hM⟩ := bS hM
      refine r_callVv C hS cv_Pairs_44 (c_Pairs_rankOthers l base D cI cZ h1 l0 l1 l2 l3 eh2) (o_Pairs_rankOthers eh2) (rest := []) rfl hl.1 rfl (Nat.le_of_ble_eq_true rfl) ⟨(Nat.le_of_ble_eq_true rfl), (Nat.le_of_ble_eq_true rfl)⟩ ⟨(Nat.le_of_ble_eq_true rfl), (Nat.le_of_ble_eq_true rfl)⟩ d_Pairs_find_53 (fun H locs hS => ?_)
      refine lv_iconst (v := (1 : Int32)) hx hb d_Pairs_find_56 (by decide) ?_
      refine lv_istore (lv' := [(4, .int (1 : Int32)), (0, .ref (base + l0)), (1, .ref (base + l1)), (2, .ref (base + l2)), (3, .int l3)]) hx hb d_Pairs_find_57 hl (by decide) rfl (fun ls hl => ?_)
      refine lv_iconst (v := (0 : Int32)) hx hb d_Pairs_find_59 (by decide) ?_
      refine lv_istore (lv' := [(5, .int (0 : Int32)), (4, .int (1 : Int32)), (0, .ref (base + l0)), (1, .ref (base + l1)), (2, .ref (base + l2)), (3, .int l3)]) hx hb d_Pairs_find_60 hl (by decide) rfl (fun ls hl => ?_)
      exact t_Pairs_find_62  C  FU (1 : Int32) (0 : Int32) h2 hM _ _ _ hS (lv_sub hl [2, 3, 4, 1, 0] rfl)
    · rw [if_neg c7_1] at hM
      refine lv_aload_n hx hb d_Pairs_find_10 rfl (lv_at hl 0 rfl) ?_
      obtain ⟨t4, et4, hM⟩ := bS hM
      refine r_getR C hS fl_Pairs_9 et4 d_Pairs_find_11 ?_
      refine lv_iload hx hb d_Pairs_find_14 (lv_at hl 4 rfl) ?_
      refine lv_bipush (v := (-6 : Int32)) hx hb d_Pairs_find_16 (by decide) ?_
      obtain ⟨h5, eh5, hM⟩ := bS hM
      refine r_iast C hS eh5 d_Pairs_find_18 (fun H locs hS => ?_)
      refine lv_aload_n hx hb d_Pairs_find_19 rfl (lv_at hl 0 rfl) ?_
      obtain ⟨t6, et6, hM⟩ := bS hM
      refine r_getR C hS fl_Pairs_15 et6 d_Pairs_find_20 ?_
      refine lv_iload hx hb d_Pairs_find_23 (lv_at hl 4 rfl) ?_
      refine lv_bipush (v := (-6 : Int32)) hx hb d_Pairs_find_25 (by decide) ?_
      obtain ⟨h7, eh7, hM⟩ := bS hM
      refine r_iast C hS eh7 d_Pairs_find_27 (fun H locs hS => ?_)
      refine lv_aload_n hx hb d_Pairs_find_28 rfl (lv_at hl 0 rfl) ?_
      obtain ⟨t8, et8, hM⟩ := bS hM
      refine r_getR C hS fl_Pairs_18 et8 d_Pairs_find_29 ?_
      refine lv_iload hx hb d_Pairs_find_32 (lv_at hl 4 rfl) ?_
      refine lv_bipush (v := (-6 : Int32)) hx hb d_Pairs_find_34 (by decide) ?_
      obtain ⟨h9, eh9, hM⟩ := bS hM
      refine r_iast C hS eh9 d_Pairs_find_36 (fun H locs hS => ?_)
      refine lv_iinc (v := (l4 + (1 : Int32))) (lv' := [(4, .int (l4 + (1 : Int32))), (0, .ref (base + l0)), (1, .ref (base + l1)), (2, .ref (base + l2)), (3, .int l3)]) hx hb d_Pairs_find_37 hl (k := 4) rfl (by rw [oi_1]) (by decide) rfl (fun ls hl => ?_)
      refine lv_goto (tgt := 3) hx hb d_Pairs_find_40 (by decide) ?_
      exact ih (l4 + (1 : Int32)) h9 hM _ _ _ hS (lv_sub hl [1, 2, 3, 4, 0] rfl)
def f_Pairs_find (h : Hp) (l0 : Nat) (l1 : Nat) (l2 : Nat) (l3 : Int32) : Option Hp :=
  ck h 5 l0 (
    f_Pairs_find_3 l0 l1 l2 l3 FU (0 : Int32) h
  )
theorem o_Pairs_find {h : Hp} {l0 : Nat} {l1 : Nat} {l2 : Nat} {l3 : Int32} {r : Hp} (hM : f_Pairs_find h l0 l1 l2 l3 = some r) : isO h 5 l0 = true := by
  unfold f_Pairs_find at hM
  exact (ck_some hM).1
set_option maxHeartbeats 4000000 in
set_option maxRecDepth 100000 in
theorem t_Pairs_find {h : Hp} {l0 : Nat} {l1 : Nat} {l2 : Nat} {l3 : Int32} {r : Hp} (C : Cx base D cI cZ b_Pairs_find 6 "MovedFolders$Pairs" "find" none p s m args meth c) (hM : f_Pairs_find h l0 l1 l2 l3 = some r) (H : Heap) (locs : List Loc) (ls : Array Slot) (hS : RS base D cI cZ s H locs h) (hl : lv_has ls 6 [(0, .ref (base + l0)), (1, .ref (base + l1)), (2, .ref (base + l2)), (3, .int l3)]) : Wg l base D cI cZ 5 125 0 0 r none p e s m args below meth c H locs 0 0 (F0 m 0 ls []) := by
  have hx := C.1
  have hb := C.2.1
  unfold f_Pairs_find at hM
  replace hM := (ck_some hM).2
  refine lv_iconst (v := (0 : Int32)) hx hb d_Pairs_find_0 (by decide) ?_
  refine lv_istore (lv' := [(4, .int (0 : Int32)), (0, .ref (base + l0)), (1, .ref (base + l1)), (2, .ref (base + l2)), (3, .int l3)]) hx hb d_Pairs_find_1 hl (by decide) rfl (fun ls hl => ?_)
  exact t_Pairs_find_3  C  FU (0 : Int32) h hM _ _ _ hS (lv_sub hl [1, 2, 3, 4, 0] rfl)
theorem c_Pairs_find (l : Launch) (base : Nat) (D : va_G) (cI cZ : ClassId) (h : Hp) (l0 : Nat) (l1 : Nat) (l2 : Nat) (l3 : Int32) {r : Hp} (hM : f_Pairs_find h l0 l1 l2 l3 = some r) : Ct l base D cI cZ y_Pairs_find b_Pairs_find 6 none 5 125 0 0 h [.ref (base + l0), .ref (base + l1), .ref (base + l2), .int l3] r none :=
  ct_of (by decide) (Nat.le_of_ble_eq_true rfl) (fun p e s m below meth c ls C hS hl => t_Pairs_find C hM _ _ _ hS hl)
theorem d_Side_init_0 : decode b_Side_init 0 = .ok (.aload_n 0, 1) := by decide +kernel
theorem d_Side_init_1 : decode b_Side_init 1 = .ok (.invokespecial 1, 3) := by decide +kernel
theorem d_Side_init_4 : decode b_Side_init 4 = .ok (.aload_n 0, 1) := by decide +kernel
theorem d_Side_init_5 : decode b_Side_init 5 = .ok (.new 7, 3) := by decide +kernel
theorem d_Side_init_8 : decode b_Side_init 8 = .ok (.dup, 1) := by decide +kernel
theorem d_Side_init_9 : decode b_Side_init 9 = .ok (.invokespecial 9, 3) := by decide +kernel
theorem d_Side_init_12 : decode b_Side_init 12 = .ok (.putfield 10, 3) := by decide +kernel
theorem d_Side_init_15 : decode b_Side_init 15 = .ok (.aload_n 0, 1) := by decide +kernel
theorem d_Side_init_16 : decode b_Side_init 16 = .ok (.new 16, 3) := by decide +kernel
theorem d_Side_init_19 : decode b_Side_init 19 = .ok (.dup, 1) := by decide +kernel
theorem d_Side_init_20 : decode b_Side_init 20 = .ok (.invokespecial 18, 3) := by decide +kernel
theorem d_Side_init_23 : decode b_Side_init 23 = .ok (.putfield 19, 3) := by decide +kernel
theorem d_Side_init_26 : decode b_Side_init 26 = .ok (.return_, 1) := by decide +kernel
def f_Side_init (h : Hp) (l0 : Nat) : Option Hp :=
  ck h 6 l0 (
    (f_Pairs_init (h ++ [.inr (5, [.null, .null, .null, .null])]) h.length).bind fun h1 =>
    (sR h1 6 l0 0 h.length).bind fun h2 =>
    (f_Moves_init (h2 ++ [.inr (3, [.null, .null, .null, .int 0])]) h2.length).bind fun h3 =>
    (sR h3 6 l0 1 h2.length).bind fun h4 =>
    some h4
  )
theorem o_Side_init {h : Hp} {l0 : Nat} {r : Hp} (hM : f_Side_init h l0 = some r) : isO h 6 l0 = true := by
  unfold f_Side_init at hM
  exact (ck_some hM).1
set_option maxHeartbeats 4000000 in
set_option maxRecDepth 100000 in
theorem t_Side_init {h : Hp} {l0 : Nat} {r : Hp} (C : Cx base D cI cZ b_Side_init 1 "MovedFolders$Side" "<init>" none p s m args meth c) (hM : f_Side_init h l0 = some r) (H : Heap) (locs : List Loc) (ls : Array Slot) (hS : RS base D cI cZ s H locs h) (hl : lv_has ls 1 [(0, .ref (base + l0))]) : Wg l base D cI cZ 2 32 9 224 r none p e s m args below meth c H locs 0 0 (F0 m 0 ls []) := by
  have hx := C.1
  have hb := C.2.1
  unfold f_Side_init at hM
  replace hM := (ck_some hM).2
  refine lv_aload_n hx hb d_Side_init_0 rfl (lv_at hl 0 rfl) ?_
  refine r_obj C oi_Side_1 hl.1 rfl ⟨(Nat.le_of_ble_eq_true rfl), (Nat.le_of_ble_eq_true rfl)⟩ d_Side_init_1 ?_
  refine lv_aload_n hx hb d_Side_init_4 rfl (lv_at hl 0 rfl) ?_
  refine r_new C hS nw_Side_7 (Nat.le_of_ble_eq_true rfl) (Nat.le_of_ble_eq_true rfl) d_Side_init_5 (fun H hS => ?_)
  refine lv_dup hx hb d_Side_init_8 rfl ?_
  obtain ⟨h1, eh1, hM⟩ := bS hM
  refine r_callN C hS cn_Side_9 (c_Pairs_init l base D cI cZ (h ++ [.inr (5, [.null, .null, .null, .null])]) h.length eh1) (rest := [.ref (base + h.length), .ref (base + l0)]) rfl hl.1 rfl (Nat.le_of_ble_eq_true rfl) ⟨(Nat.le_of_ble_eq_true rfl), (Nat.le_of_ble_eq_true rfl)⟩ ⟨(Nat.le_of_ble_eq_true rfl), (Nat.le_of_ble_eq_true rfl)⟩ d_Side_init_9 (fun H locs hS => ?_)
  obtain ⟨h2, eh2, hM⟩ := bS hM
  refine r_putF C hS fp_Side_10 (fun q hq => by cases hq; rfl) eh2 rfl rfl d_Side_init_12 (fun H locs hS => ?_)
  refine lv_aload_n hx hb d_Side_init_15 rfl (lv_at hl 0 rfl) ?_
  refine r_new C hS nw_Side_16 (Nat.le_of_ble_eq_true rfl) (Nat.le_of_ble_eq_true rfl) d_Side_init_16 (fun H hS => ?_)
  refine lv_dup hx hb d_Side_init_19 rfl ?_
  obtain ⟨h3, eh3, hM⟩ := bS hM
  refine r_callN C hS cn_Side_18 (c_Moves_init l base D cI cZ (h2 ++ [.inr (3, [.null, .null, .null, .int 0])]) h2.length eh3) (rest := [.ref (base + h2.length), .ref (base + l0)]) rfl hl.1 rfl (Nat.le_of_ble_eq_true rfl) ⟨(Nat.le_of_ble_eq_true rfl), (Nat.le_of_ble_eq_true rfl)⟩ ⟨(Nat.le_of_ble_eq_true rfl), (Nat.le_of_ble_eq_true rfl)⟩ d_Side_init_20 (fun H locs hS => ?_)
  obtain ⟨h4, eh4, hM⟩ := bS hM
  refine r_putF C hS fp_Side_19 (fun q hq => by cases hq; rfl) eh4 rfl rfl d_Side_init_23 (fun H locs hS => ?_)
  obtain rfl := Option.some.inj hM
  exact r_vret C hS d_Side_init_26
theorem c_Side_init (l : Launch) (base : Nat) (D : va_G) (cI cZ : ClassId) (h : Hp) (l0 : Nat) {r : Hp} (hM : f_Side_init h l0 = some r) : Ct l base D cI cZ y_Side_init b_Side_init 1 none 2 32 9 224 h [.ref (base + l0)] r none :=
  ct_of (by decide) (Nat.le_of_ble_eq_true rfl) (fun p e s m below meth c ls C hS hl => t_Side_init C hM _ _ _ hS hl)
theorem d_Tree_remove_0 : decode b_Tree_remove 0 = .ok (.aload_n 0, 1) := by decide +kernel
theorem d_Tree_remove_1 : decode b_Tree_remove 1 = .ok (.iload_n 1, 1) := by decide +kernel
theorem d_Tree_remove_2 : decode b_Tree_remove 2 = .ok (.invokevirtual 22, 3) := by decide +kernel
theorem d_Tree_remove_5 : decode b_Tree_remove 5 = .ok (.ifCond .ne 4, 3) := by decide +kernel
theorem d_Tree_remove_8 : decode b_Tree_remove 8 = .ok (.return_, 1) := by decide +kernel
theorem d_Tree_remove_9 : decode b_Tree_remove 9 = .ok (.aload_n 0, 1) := by decide +kernel
theorem d_Tree_remove_10 : decode b_Tree_remove 10 = .ok (.dup, 1) := by decide +kernel
theorem d_Tree_remove_11 : decode b_Tree_remove 11 = .ok (.getfield 18, 3) := by decide +kernel
theorem d_Tree_remove_14 : decode b_Tree_remove 14 = .ok (.iconst 1, 1) := by decide +kernel
theorem d_Tree_remove_15 : decode b_Tree_remove 15 = .ok (.isub, 1) := by decide +kernel
theorem d_Tree_remove_16 : decode b_Tree_remove 16 = .ok (.putfield 18, 3) := by decide +kernel
theorem d_Tree_remove_19 : decode b_Tree_remove 19 = .ok (.iload_n 1, 1) := by decide +kernel
theorem d_Tree_remove_20 : decode b_Tree_remove 20 = .ok (.istore_n 2, 1) := by decide +kernel
theorem d_Tree_remove_21 : decode b_Tree_remove 21 = .ok (.iload_n 2, 1) := by decide +kernel
theorem d_Tree_remove_22 : decode b_Tree_remove 22 = .ok (.aload_n 0, 1) := by decide +kernel
theorem d_Tree_remove_23 : decode b_Tree_remove 23 = .ok (.getfield 18, 3) := by decide +kernel
theorem d_Tree_remove_26 : decode b_Tree_remove 26 = .ok (.if_icmp .ge 37, 3) := by decide +kernel
theorem d_Tree_remove_29 : decode b_Tree_remove 29 = .ok (.aload_n 0, 1) := by decide +kernel
theorem d_Tree_remove_30 : decode b_Tree_remove 30 = .ok (.getfield 9, 3) := by decide +kernel
theorem d_Tree_remove_33 : decode b_Tree_remove 33 = .ok (.iload_n 2, 1) := by decide +kernel
theorem d_Tree_remove_34 : decode b_Tree_remove 34 = .ok (.aload_n 0, 1) := by decide +kernel
theorem d_Tree_remove_35 : decode b_Tree_remove 35 = .ok (.getfield 9, 3) := by decide +kernel
theorem d_Tree_remove_38 : decode b_Tree_remove 38 = .ok (.iload_n 2, 1) := by decide +kernel
theorem d_Tree_remove_39 : decode b_Tree_remove 39 = .ok (.iconst 1, 1) := by decide +kernel
theorem d_Tree_remove_40 : decode b_Tree_remove 40 = .ok (.iadd, 1) := by decide +kernel
theorem d_Tree_remove_41 : decode b_Tree_remove 41 = .ok (.iaload, 1) := by decide +kernel
theorem d_Tree_remove_42 : decode b_Tree_remove 42 = .ok (.iastore, 1) := by decide +kernel
theorem d_Tree_remove_43 : decode b_Tree_remove 43 = .ok (.aload_n 0, 1) := by decide +kernel
theorem d_Tree_remove_44 : decode b_Tree_remove 44 = .ok (.getfield 15, 3) := by decide +kernel
theorem d_Tree_remove_47 : decode b_Tree_remove 47 = .ok (.iload_n 2, 1) := by decide +kernel
theorem d_Tree_remove_48 : decode b_Tree_remove 48 = .ok (.aload_n 0, 1) := by decide +kernel
theorem d_Tree_remove_49 : decode b_Tree_remove 49 = .ok (.getfield 15, 3) := by decide +kernel
theorem d_Tree_remove_52 : decode b_Tree_remove 52 = .ok (.iload_n 2, 1) := by decide +kernel
theorem d_Tree_remove_53 : decode b_Tree_remove 53 = .ok (.iconst 1, 1) := by decide +kernel
theorem d_Tree_remove_54 : decode b_Tree_remove 54 = .ok (.iadd, 1) := by decide +kernel
theorem d_Tree_remove_55 : decode b_Tree_remove 55 = .ok (.iaload, 1) := by decide +kernel
theorem d_Tree_remove_56 : decode b_Tree_remove 56 = .ok (.iastore, 1) := by decide +kernel
theorem d_Tree_remove_57 : decode b_Tree_remove 57 = .ok (.iinc 2 1, 3) := by decide +kernel
theorem d_Tree_remove_60 : decode b_Tree_remove 60 = .ok (.goto (-39), 3) := by decide +kernel
theorem d_Tree_remove_63 : decode b_Tree_remove 63 = .ok (.return_, 1) := by decide +kernel
def f_Tree_remove_21 (l0 : Nat) : Nat → Int32 → Hp → Option Hp
  | 0, _, _ => none
  | n + 1, l2, h =>
    (gI h 7 l0 2).bind fun t4 =>
    if t4 ≤ l2 then (
      some h
    ) else (
      (gR h 7 l0 0).bind fun t5 =>
      (gR h 7 l0 0).bind fun t6 =>
      (gA h false t6 (l2 + (1 : Int32))).bind fun t7 =>
      (sA h t5 l2 t7).bind fun h8 =>
      (gR h8 7 l0 1).bind fun t9 =>
      (gR h8 7 l0 1).bind fun t10 =>
      (gA h8 false t10 (l2 + (1 : Int32))).bind fun t11 =>
      (sA h8 t9 l2 t11).bind fun h12 =>
      f_Tree_remove_21 l0 n (l2 + (1 : Int32)) h12
    )
set_option maxHeartbeats 4000000 in
set_option maxRecDepth 100000 in
theorem t_Tree_remove_21 {l0 : Nat} {r : Hp} (C : Cx base D cI cZ b_Tree_remove 3 "MovedFolders$Tree" "remove" none p s m args meth c)  : ∀ (n : Nat) (l2 : Int32) (h : Hp), f_Tree_remove_21 l0 n l2 h = some r → ∀ (H : Heap) (locs : List Loc) (ls : Array Slot), RS base D cI cZ s H locs h → lv_has ls 3 [(0, .ref (base + l0)), (2, .int l2)] → Wg l base D cI cZ 1 21 0 0 r none p e s m args below meth c H locs 0 0 (F0 m 21 ls []) := by
  have hx := C.1
  have hb := C.2.1
  intro n
  induction n with
  | zero =>
    intro l2 h hM
    rw [f_Tree_remove_21] at hM
    cases hM
  | succ n ih =>
    intro l2 h hM H locs ls hS hl
    rw [f_Tree_remove_21] at hM
    refine lv_iload_n hx hb d_Tree_remove_21 rfl (lv_at hl 1 rfl) ?_
    refine lv_aload_n hx hb d_Tree_remove_22 rfl (lv_at hl 0 rfl) ?_
    obtain ⟨t4, et4, hM⟩ := bS hM
    refine r_getI C hS fl_Tree_18 et4 d_Tree_remove_23 ?_
    refine lv_icmp_ge (tgt := 63) hx hb d_Tree_remove_26 (by decide) (fun c26_2 => ?_) (fun c26_2 => ?_)
    · rw [if_pos c26_2] at hM
      obtain rfl := Option.some.inj hM
      exact r_vret C hS d_Tree_remove_63
    · rw [if_neg c26_2] at hM
      refine lv_aload_n hx hb d_Tree_remove_29 rfl (lv_at hl 0 rfl) ?_
      obtain ⟨t5, et5, hM⟩ := bS hM
      refine r_getR C hS fl_Tree_9 et5 d_Tree_remove_30 ?_
      refine lv_iload_n hx hb d_Tree_remove_33 rfl (lv_at hl 1 rfl) ?_
      refine lv_aload_n hx hb d_Tree_remove_34 rfl (lv_at hl 0 rfl) ?_
      obtain ⟨t6, et6, hM⟩ := bS hM
      refine r_getR C hS fl_Tree_9 et6 d_Tree_remove_35 ?_
      refine lv_iload_n hx hb d_Tree_remove_38 rfl (lv_at hl 1 rfl) ?_
      refine lv_iconst (v := (1 : Int32)) hx hb d_Tree_remove_39 (by decide) ?_
      refine lv_iadd hx hb d_Tree_remove_40 ?_
      obtain ⟨t7, et7, hM⟩ := bS hM
      refine r_iald C hS et7 d_Tree_remove_41 ?_
      obtain ⟨h8, eh8, hM⟩ := bS hM
      refine r_iast C hS eh8 d_Tree_remove_42 (fun H locs hS => ?_)
      refine lv_aload_n hx hb d_Tree_remove_43 rfl (lv_at hl 0 rfl) ?_
      obtain ⟨t9, et9, hM⟩ := bS hM
      refine r_getR C hS fl_Tree_15 et9 d_Tree_remove_44 ?_
      refine lv_iload_n hx hb d_Tree_remove_47 rfl (lv_at hl 1 rfl) ?_
      refine lv_aload_n hx hb d_Tree_remove_48 rfl (lv_at hl 0 rfl) ?_
      obtain ⟨t10, et10, hM⟩ := bS hM
      refine r_getR C hS fl_Tree_15 et10 d_Tree_remove_49 ?_
      refine lv_iload_n hx hb d_Tree_remove_52 rfl (lv_at hl 1 rfl) ?_
      refine lv_iconst (v := (1 : Int32)) hx hb d_Tree_remove_53 (by decide) ?_
      refine lv_iadd hx hb d_Tree_remove_54 ?_
      obtain ⟨t11, et11, hM⟩ := bS hM
      refine r_iald C hS et11 d_Tree_remove_55 ?_
      obtain ⟨h12, eh12, hM⟩ := bS hM
      refine r_iast C hS eh12 d_Tree_remove_56 (fun H locs hS => ?_)
      refine lv_iinc (v := (l2 + (1 : Int32))) (lv' := [(2, .int (l2 + (1 : Int32))), (0, .ref (base + l0))]) hx hb d_Tree_remove_57 hl (k := 1) rfl (by rw [oi_1]) (by decide) rfl (fun ls hl => ?_)
      refine lv_goto (tgt := 21) hx hb d_Tree_remove_60 (by decide) ?_
      exact ih (l2 + (1 : Int32)) h12 hM _ _ _ hS (lv_sub hl [1, 0] rfl)
def f_Tree_remove (h : Hp) (l0 : Nat) (l1 : Int32) : Option Hp :=
  ck h 7 l0 (
    (f_Tree_has h l0 l1).bind fun t1 =>
    if t1 = (0 : Int32) then (
      some h
    ) else (
      (gI h 7 l0 2).bind fun t2 =>
      (sI h 7 l0 2 (t2 - (1 : Int32))).bind fun h3 =>
      f_Tree_remove_21 l0 FU l1 h3
    )
  )
theorem o_Tree_remove {h : Hp} {l0 : Nat} {l1 : Int32} {r : Hp} (hM : f_Tree_remove h l0 l1 = some r) : isO h 7 l0 = true := by
  unfold f_Tree_remove at hM
  exact (ck_some hM).1
set_option maxHeartbeats 4000000 in
set_option maxRecDepth 100000 in
theorem t_Tree_remove {h : Hp} {l0 : Nat} {l1 : Int32} {r : Hp} (C : Cx base D cI cZ b_Tree_remove 3 "MovedFolders$Tree" "remove" none p s m args meth c) (hM : f_Tree_remove h l0 l1 = some r) (H : Heap) (locs : List Loc) (ls : Array Slot) (hS : RS base D cI cZ s H locs h) (hl : lv_has ls 3 [(0, .ref (base + l0)), (1, .int l1)]) : Wg l base D cI cZ 1 21 0 0 r none p e s m args below meth c H locs 0 0 (F0 m 0 ls []) := by
  have hx := C.1
  have hb := C.2.1
  unfold f_Tree_remove at hM
  replace hM := (ck_some hM).2
  refine lv_aload_n hx hb d_Tree_remove_0 rfl (lv_at hl 0 rfl) ?_
  refine lv_iload_n hx hb d_Tree_remove_1 rfl (lv_at hl 1 rfl) ?_
  obtain ⟨t1, et1, hM⟩ := bS hM
  refine r_callVi (x := t1) C hS cv_Tree_22 (c_Tree_has l base D cI cZ h l0 l1 et1) (o_Tree_has et1) (rest := []) rfl hl.1 rfl (Nat.le_of_ble_eq_true rfl) ⟨(Nat.le_of_ble_eq_true rfl), (Nat.le_of_ble_eq_true rfl)⟩ ⟨(Nat.le_of_ble_eq_true rfl), (Nat.le_of_ble_eq_true rfl)⟩ d_Tree_remove_2 (fun H locs hS => ?_)
  refine lv_if_ne (tgt := 9) hx hb d_Tree_remove_5 (by decide) (fun c5_1 => ?_) (fun c5_1 => ?_)
  · rw [if_neg c5_1] at hM
    refine lv_aload_n hx hb d_Tree_remove_9 rfl (lv_at hl 0 rfl) ?_
    refine lv_dup hx hb d_Tree_remove_10 rfl ?_
    obtain ⟨t2, et2, hM⟩ := bS hM
    refine r_getI C hS fl_Tree_18 et2 d_Tree_remove_11 ?_
    refine lv_iconst (v := (1 : Int32)) hx hb d_Tree_remove_14 (by decide) ?_
    refine lv_isub hx hb d_Tree_remove_15 ?_
    obtain ⟨h3, eh3, hM⟩ := bS hM
    refine r_putI C hS fp_Tree_18 eh3 d_Tree_remove_16 (fun H locs hS => ?_)
    refine lv_iload_n hx hb d_Tree_remove_19 rfl (lv_at hl 1 rfl) ?_
    refine lv_istore_n (lv' := [(2, .int l1), (0, .ref (base + l0)), (1, .int l1)]) hx hb d_Tree_remove_20 rfl hl (by decide) rfl (fun ls hl => ?_)
    exact t_Tree_remove_21  C  FU l1 h3 hM _ _ _ hS (lv_sub hl [1, 0] rfl)
  · rw [if_pos c5_1] at hM
    obtain rfl := Option.some.inj hM
    exact r_vret C hS d_Tree_remove_8
theorem c_Tree_remove (l : Launch) (base : Nat) (D : va_G) (cI cZ : ClassId) (h : Hp) (l0 : Nat) (l1 : Int32) {r : Hp} (hM : f_Tree_remove h l0 l1 = some r) : Ct l base D cI cZ y_Tree_remove b_Tree_remove 3 none 1 21 0 0 h [.ref (base + l0), .int l1] r none :=
  ct_of (by decide) (Nat.le_of_ble_eq_true rfl) (fun p e s m below meth c ls C hS hl => t_Tree_remove C hM _ _ _ hS hl)
theorem d_MF_init_0 : decode b_MF_init 0 = .ok (.aload_n 0, 1) := by decide +kernel
theorem d_MF_init_1 : decode b_MF_init 1 = .ok (.invokespecial 3, 3) := by decide +kernel
theorem d_MF_init_4 : decode b_MF_init 4 = .ok (.aload_n 0, 1) := by decide +kernel
theorem d_MF_init_5 : decode b_MF_init 5 = .ok (.new 9, 3) := by decide +kernel
theorem d_MF_init_8 : decode b_MF_init 8 = .ok (.dup, 1) := by decide +kernel
theorem d_MF_init_9 : decode b_MF_init 9 = .ok (.invokespecial 11, 3) := by decide +kernel
theorem d_MF_init_12 : decode b_MF_init 12 = .ok (.putfield 12, 3) := by decide +kernel
theorem d_MF_init_15 : decode b_MF_init 15 = .ok (.aload_n 0, 1) := by decide +kernel
theorem d_MF_init_16 : decode b_MF_init 16 = .ok (.new 16, 3) := by decide +kernel
theorem d_MF_init_19 : decode b_MF_init 19 = .ok (.dup, 1) := by decide +kernel
theorem d_MF_init_20 : decode b_MF_init 20 = .ok (.invokespecial 18, 3) := by decide +kernel
theorem d_MF_init_23 : decode b_MF_init 23 = .ok (.putfield 19, 3) := by decide +kernel
theorem d_MF_init_26 : decode b_MF_init 26 = .ok (.aload_n 0, 1) := by decide +kernel
theorem d_MF_init_27 : decode b_MF_init 27 = .ok (.new 16, 3) := by decide +kernel
theorem d_MF_init_30 : decode b_MF_init 30 = .ok (.dup, 1) := by decide +kernel
theorem d_MF_init_31 : decode b_MF_init 31 = .ok (.invokespecial 18, 3) := by decide +kernel
theorem d_MF_init_34 : decode b_MF_init 34 = .ok (.putfield 23, 3) := by decide +kernel
theorem d_MF_init_37 : decode b_MF_init 37 = .ok (.aload_n 0, 1) := by decide +kernel
theorem d_MF_init_38 : decode b_MF_init 38 = .ok (.new 16, 3) := by decide +kernel
theorem d_MF_init_41 : decode b_MF_init 41 = .ok (.dup, 1) := by decide +kernel
theorem d_MF_init_42 : decode b_MF_init 42 = .ok (.invokespecial 18, 3) := by decide +kernel
theorem d_MF_init_45 : decode b_MF_init 45 = .ok (.putfield 26, 3) := by decide +kernel
theorem d_MF_init_48 : decode b_MF_init 48 = .ok (.aload_n 0, 1) := by decide +kernel
theorem d_MF_init_49 : decode b_MF_init 49 = .ok (.iconst 2, 1) := by decide +kernel
theorem d_MF_init_50 : decode b_MF_init 50 = .ok (.newarray .boolean, 2) := by decide +kernel
theorem d_MF_init_52 : decode b_MF_init 52 = .ok (.putfield 29, 3) := by decide +kernel
theorem d_MF_init_55 : decode b_MF_init 55 = .ok (.aload_n 0, 1) := by decide +kernel
theorem d_MF_init_56 : decode b_MF_init 56 = .ok (.new 33, 3) := by decide +kernel
theorem d_MF_init_59 : decode b_MF_init 59 = .ok (.dup, 1) := by decide +kernel
theorem d_MF_init_60 : decode b_MF_init 60 = .ok (.invokespecial 35, 3) := by decide +kernel
theorem d_MF_init_63 : decode b_MF_init 63 = .ok (.putfield 36, 3) := by decide +kernel
theorem d_MF_init_66 : decode b_MF_init 66 = .ok (.aload_n 0, 1) := by decide +kernel
theorem d_MF_init_67 : decode b_MF_init 67 = .ok (.new 33, 3) := by decide +kernel
theorem d_MF_init_70 : decode b_MF_init 70 = .ok (.dup, 1) := by decide +kernel
theorem d_MF_init_71 : decode b_MF_init 71 = .ok (.invokespecial 35, 3) := by decide +kernel
theorem d_MF_init_74 : decode b_MF_init 74 = .ok (.putfield 40, 3) := by decide +kernel
theorem d_MF_init_77 : decode b_MF_init 77 = .ok (.aload_n 0, 1) := by decide +kernel
theorem d_MF_init_78 : decode b_MF_init 78 = .ok (.new 43, 3) := by decide +kernel
theorem d_MF_init_81 : decode b_MF_init 81 = .ok (.dup, 1) := by decide +kernel
theorem d_MF_init_82 : decode b_MF_init 82 = .ok (.invokespecial 45, 3) := by decide +kernel
theorem d_MF_init_85 : decode b_MF_init 85 = .ok (.putfield 46, 3) := by decide +kernel
theorem d_MF_init_88 : decode b_MF_init 88 = .ok (.aload_n 0, 1) := by decide +kernel
theorem d_MF_init_89 : decode b_MF_init 89 = .ok (.new 50, 3) := by decide +kernel
theorem d_MF_init_92 : decode b_MF_init 92 = .ok (.dup, 1) := by decide +kernel
theorem d_MF_init_93 : decode b_MF_init 93 = .ok (.invokespecial 52, 3) := by decide +kernel
theorem d_MF_init_96 : decode b_MF_init 96 = .ok (.putfield 53, 3) := by decide +kernel
theorem d_MF_init_99 : decode b_MF_init 99 = .ok (.aload_n 0, 1) := by decide +kernel
theorem d_MF_init_100 : decode b_MF_init 100 = .ok (.iconst 0, 1) := by decide +kernel
theorem d_MF_init_101 : decode b_MF_init 101 = .ok (.putfield 57, 3) := by decide +kernel
theorem d_MF_init_104 : decode b_MF_init 104 = .ok (.return_, 1) := by decide +kernel
def f_MF_init (h : Hp) (l0 : Nat) : Option Hp :=
  ck h 8 l0 (
    (f_Pad_init (h ++ [.inr (4, [.null, .int 0])]) h.length).bind fun h1 =>
    (sR h1 8 l0 0 h.length).bind fun h2 =>
    (f_Held_init (h2 ++ [.inr (0, [.null, .null, .null, .int 0])]) h2.length).bind fun h3 =>
    (sR h3 8 l0 1 h2.length).bind fun h4 =>
    (f_Held_init (h4 ++ [.inr (0, [.null, .null, .null, .int 0])]) h4.length).bind fun h5 =>
    (sR h5 8 l0 2 h4.length).bind fun h6 =>
    (f_Held_init (h6 ++ [.inr (0, [.null, .null, .null, .int 0])]) h6.length).bind fun h7 =>
    (sR h7 8 l0 3 h6.length).bind fun h8 =>
    (sR (h8 ++ [.inl (true, 2, fun _ => 0)]) 8 l0 4 h8.length).bind fun h9 =>
    (f_Side_init (h9 ++ [.inr (6, [.null, .null])]) h9.length).bind fun h10 =>
    (sR h10 8 l0 5 h9.length).bind fun h11 =>
    (f_Side_init (h11 ++ [.inr (6, [.null, .null])]) h11.length).bind fun h12 =>
    (sR h12 8 l0 6 h11.length).bind fun h13 =>
    (f_Loops_init (h13 ++ [.inr (1, [.null, .int 0])]) h13.length).bind fun h14 =>
    (sR h14 8 l0 7 h13.length).bind fun h15 =>
    (f_Merge_init (h15 ++ [.inr (2, [.null, .null, .null, .null, .int 0, .null, .null, .int 0, .null])]) h15.length).bind fun h16 =>
    (sR h16 8 l0 8 h15.length).bind fun h17 =>
    (sI h17 8 l0 9 (0 : Int32)).bind fun h18 =>
    some h18
  )
theorem o_MF_init {h : Hp} {l0 : Nat} {r : Hp} (hM : f_MF_init h l0 = some r) : isO h 8 l0 = true := by
  unfold f_MF_init at hM
  exact (ck_some hM).1
set_option maxHeartbeats 4000000 in
set_option maxRecDepth 100000 in
theorem t_MF_init {h : Hp} {l0 : Nat} {r : Hp} (C : Cx base D cI cZ b_MF_init 1 "MovedFolders" "<init>" none p s m args meth c) (hM : f_MF_init h l0 = some r) (H : Heap) (locs : List Loc) (ls : Array Slot) (hS : RS base D cI cZ s H locs h) (hl : lv_has ls 1 [(0, .ref (base + l0))]) : Wg l base D cI cZ 3 52 63 1035 r none p e s m args below meth c H locs 0 0 (F0 m 0 ls []) := by
  have hx := C.1
  have hb := C.2.1
  unfold f_MF_init at hM
  replace hM := (ck_some hM).2
  refine lv_aload_n hx hb d_MF_init_0 rfl (lv_at hl 0 rfl) ?_
  refine r_obj C oi_MF_3 hl.1 rfl ⟨(Nat.le_of_ble_eq_true rfl), (Nat.le_of_ble_eq_true rfl)⟩ d_MF_init_1 ?_
  refine lv_aload_n hx hb d_MF_init_4 rfl (lv_at hl 0 rfl) ?_
  refine r_new C hS nw_MF_9 (Nat.le_of_ble_eq_true rfl) (Nat.le_of_ble_eq_true rfl) d_MF_init_5 (fun H hS => ?_)
  refine lv_dup hx hb d_MF_init_8 rfl ?_
  obtain ⟨h1, eh1, hM⟩ := bS hM
  refine r_callN C hS cn_MF_11 (c_Pad_init l base D cI cZ (h ++ [.inr (4, [.null, .int 0])]) h.length eh1) (rest := [.ref (base + h.length), .ref (base + l0)]) rfl hl.1 rfl (Nat.le_of_ble_eq_true rfl) ⟨(Nat.le_of_ble_eq_true rfl), (Nat.le_of_ble_eq_true rfl)⟩ ⟨(Nat.le_of_ble_eq_true rfl), (Nat.le_of_ble_eq_true rfl)⟩ d_MF_init_9 (fun H locs hS => ?_)
  obtain ⟨h2, eh2, hM⟩ := bS hM
  refine r_putF C hS fp_MF_12 (fun q hq => by cases hq; rfl) eh2 rfl rfl d_MF_init_12 (fun H locs hS => ?_)
  refine lv_aload_n hx hb d_MF_init_15 rfl (lv_at hl 0 rfl) ?_
  refine r_new C hS nw_MF_16 (Nat.le_of_ble_eq_true rfl) (Nat.le_of_ble_eq_true rfl) d_MF_init_16 (fun H hS => ?_)
  refine lv_dup hx hb d_MF_init_19 rfl ?_
  obtain ⟨h3, eh3, hM⟩ := bS hM
  refine r_callN C hS cn_MF_18 (c_Held_init l base D cI cZ (h2 ++ [.inr (0, [.null, .null, .null, .int 0])]) h2.length eh3) (rest := [.ref (base + h2.length), .ref (base + l0)]) rfl hl.1 rfl (Nat.le_of_ble_eq_true rfl) ⟨(Nat.le_of_ble_eq_true rfl), (Nat.le_of_ble_eq_true rfl)⟩ ⟨(Nat.le_of_ble_eq_true rfl), (Nat.le_of_ble_eq_true rfl)⟩ d_MF_init_20 (fun H locs hS => ?_)
  obtain ⟨h4, eh4, hM⟩ := bS hM
  refine r_putF C hS fp_MF_19 (fun q hq => by cases hq; rfl) eh4 rfl rfl d_MF_init_23 (fun H locs hS => ?_)
  refine lv_aload_n hx hb d_MF_init_26 rfl (lv_at hl 0 rfl) ?_
  refine r_new C hS nw_MF_16 (Nat.le_of_ble_eq_true rfl) (Nat.le_of_ble_eq_true rfl) d_MF_init_27 (fun H hS => ?_)
  refine lv_dup hx hb d_MF_init_30 rfl ?_
  obtain ⟨h5, eh5, hM⟩ := bS hM
  refine r_callN C hS cn_MF_18 (c_Held_init l base D cI cZ (h4 ++ [.inr (0, [.null, .null, .null, .int 0])]) h4.length eh5) (rest := [.ref (base + h4.length), .ref (base + l0)]) rfl hl.1 rfl (Nat.le_of_ble_eq_true rfl) ⟨(Nat.le_of_ble_eq_true rfl), (Nat.le_of_ble_eq_true rfl)⟩ ⟨(Nat.le_of_ble_eq_true rfl), (Nat.le_of_ble_eq_true rfl)⟩ d_MF_init_31 (fun H locs hS => ?_)
  obtain ⟨h6, eh6, hM⟩ := bS hM
  refine r_putF C hS fp_MF_23 (fun q hq => by cases hq; rfl) eh6 rfl rfl d_MF_init_34 (fun H locs hS => ?_)
  refine lv_aload_n hx hb d_MF_init_37 rfl (lv_at hl 0 rfl) ?_
  refine r_new C hS nw_MF_16 (Nat.le_of_ble_eq_true rfl) (Nat.le_of_ble_eq_true rfl) d_MF_init_38 (fun H hS => ?_)
  refine lv_dup hx hb d_MF_init_41 rfl ?_
  obtain ⟨h7, eh7, hM⟩ := bS hM
  refine r_callN C hS cn_MF_18 (c_Held_init l base D cI cZ (h6 ++ [.inr (0, [.null, .null, .null, .int 0])]) h6.length eh7) (rest := [.ref (base + h6.length), .ref (base + l0)]) rfl hl.1 rfl (Nat.le_of_ble_eq_true rfl) ⟨(Nat.le_of_ble_eq_true rfl), (Nat.le_of_ble_eq_true rfl)⟩ ⟨(Nat.le_of_ble_eq_true rfl), (Nat.le_of_ble_eq_true rfl)⟩ d_MF_init_42 (fun H locs hS => ?_)
  obtain ⟨h8, eh8, hM⟩ := bS hM
  refine r_putF C hS fp_MF_26 (fun q hq => by cases hq; rfl) eh8 rfl rfl d_MF_init_45 (fun H locs hS => ?_)
  refine lv_aload_n hx hb d_MF_init_48 rfl (lv_at hl 0 rfl) ?_
  refine lv_iconst (v := (2 : Int32)) hx hb d_MF_init_49 (by decide) ?_
  refine r_newZ (N := 2) C hS ac_boolean (by decide) (by decide) (Nat.le_of_ble_eq_true rfl) (Nat.le_of_ble_eq_true rfl) (Nat.le_of_ble_eq_true rfl) d_MF_init_50 (fun H hS => ?_)
  obtain ⟨h9, eh9, hM⟩ := bS hM
  refine r_putF C hS fp_MF_29 (fun q hq => by cases hq; rfl) eh9 rfl rfl d_MF_init_52 (fun H locs hS => ?_)
  refine lv_aload_n hx hb d_MF_init_55 rfl (lv_at hl 0 rfl) ?_
  refine r_new C hS nw_MF_33 (Nat.le_of_ble_eq_true rfl) (Nat.le_of_ble_eq_true rfl) d_MF_init_56 (fun H hS => ?_)
  refine lv_dup hx hb d_MF_init_59 rfl ?_
  obtain ⟨h10, eh10, hM⟩ := bS hM
  refine r_callN C hS cn_MF_35 (c_Side_init l base D cI cZ (h9 ++ [.inr (6, [.null, .null])]) h9.length eh10) (rest := [.ref (base + h9.length), .ref (base + l0)]) rfl hl.1 rfl (Nat.le_of_ble_eq_true rfl) ⟨(Nat.le_of_ble_eq_true rfl), (Nat.le_of_ble_eq_true rfl)⟩ ⟨(Nat.le_of_ble_eq_true rfl), (Nat.le_of_ble_eq_true rfl)⟩ d_MF_init_60 (fun H locs hS => ?_)
  obtain ⟨h11, eh11, hM⟩ := bS hM
  refine r_putF C hS fp_MF_36 (fun q hq => by cases hq; rfl) eh11 rfl rfl d_MF_init_63 (fun H locs hS => ?_)
  refine lv_aload_n hx hb d_MF_init_66 rfl (lv_at hl 0 rfl) ?_
  refine r_new C hS nw_MF_33 (Nat.le_of_ble_eq_true rfl) (Nat.le_of_ble_eq_true rfl) d_MF_init_67 (fun H hS => ?_)
  refine lv_dup hx hb d_MF_init_70 rfl ?_
  obtain ⟨h12, eh12, hM⟩ := bS hM
  refine r_callN C hS cn_MF_35 (c_Side_init l base D cI cZ (h11 ++ [.inr (6, [.null, .null])]) h11.length eh12) (rest := [.ref (base + h11.length), .ref (base + l0)]) rfl hl.1 rfl (Nat.le_of_ble_eq_true rfl) ⟨(Nat.le_of_ble_eq_true rfl), (Nat.le_of_ble_eq_true rfl)⟩ ⟨(Nat.le_of_ble_eq_true rfl), (Nat.le_of_ble_eq_true rfl)⟩ d_MF_init_71 (fun H locs hS => ?_)
  obtain ⟨h13, eh13, hM⟩ := bS hM
  refine r_putF C hS fp_MF_40 (fun q hq => by cases hq; rfl) eh13 rfl rfl d_MF_init_74 (fun H locs hS => ?_)
  refine lv_aload_n hx hb d_MF_init_77 rfl (lv_at hl 0 rfl) ?_
  refine r_new C hS nw_MF_43 (Nat.le_of_ble_eq_true rfl) (Nat.le_of_ble_eq_true rfl) d_MF_init_78 (fun H hS => ?_)
  refine lv_dup hx hb d_MF_init_81 rfl ?_
  obtain ⟨h14, eh14, hM⟩ := bS hM
  refine r_callN C hS cn_MF_45 (c_Loops_init l base D cI cZ (h13 ++ [.inr (1, [.null, .int 0])]) h13.length eh14) (rest := [.ref (base + h13.length), .ref (base + l0)]) rfl hl.1 rfl (Nat.le_of_ble_eq_true rfl) ⟨(Nat.le_of_ble_eq_true rfl), (Nat.le_of_ble_eq_true rfl)⟩ ⟨(Nat.le_of_ble_eq_true rfl), (Nat.le_of_ble_eq_true rfl)⟩ d_MF_init_82 (fun H locs hS => ?_)
  obtain ⟨h15, eh15, hM⟩ := bS hM
  refine r_putF C hS fp_MF_46 (fun q hq => by cases hq; rfl) eh15 rfl rfl d_MF_init_85 (fun H locs hS => ?_)
  refine lv_aload_n hx hb d_MF_init_88 rfl (lv_at hl 0 rfl) ?_
  refine r_new C hS nw_MF_50 (Nat.le_of_ble_eq_true rfl) (Nat.le_of_ble_eq_true rfl) d_MF_init_89 (fun H hS => ?_)
  refine lv_dup hx hb d_MF_init_92 rfl ?_
  obtain ⟨h16, eh16, hM⟩ := bS hM
  refine r_callN C hS cn_MF_52 (c_Merge_init l base D cI cZ (h15 ++ [.inr (2, [.null, .null, .null, .null, .int 0, .null, .null, .int 0, .null])]) h15.length eh16) (rest := [.ref (base + h15.length), .ref (base + l0)]) rfl hl.1 rfl (Nat.le_of_ble_eq_true rfl) ⟨(Nat.le_of_ble_eq_true rfl), (Nat.le_of_ble_eq_true rfl)⟩ ⟨(Nat.le_of_ble_eq_true rfl), (Nat.le_of_ble_eq_true rfl)⟩ d_MF_init_93 (fun H locs hS => ?_)
  obtain ⟨h17, eh17, hM⟩ := bS hM
  refine r_putF C hS fp_MF_53 (fun q hq => by cases hq; rfl) eh17 rfl rfl d_MF_init_96 (fun H locs hS => ?_)
  refine lv_aload_n hx hb d_MF_init_99 rfl (lv_at hl 0 rfl) ?_
  refine lv_iconst (v := (0 : Int32)) hx hb d_MF_init_100 (by decide) ?_
  obtain ⟨h18, eh18, hM⟩ := bS hM
  refine r_putZ C hS fp_MF_57 eh18 rfl rfl d_MF_init_101 (fun H locs hS => ?_)
  obtain rfl := Option.some.inj hM
  exact r_vret C hS d_MF_init_104
theorem c_MF_init (l : Launch) (base : Nat) (D : va_G) (cI cZ : ClassId) (h : Hp) (l0 : Nat) {r : Hp} (hM : f_MF_init h l0 = some r) : Ct l base D cI cZ y_MF_init b_MF_init 1 none 3 52 63 1035 h [.ref (base + l0)] r none :=
  ct_of (by decide) (Nat.le_of_ble_eq_true rfl) (fun p e s m below meth c ls C hS hl => t_MF_init C hM _ _ _ hS hl)
theorem d_MF_say_0 : decode b_MF_say 0 = .ok (.iload_n 1, 1) := by decide +kernel
theorem d_MF_say_1 : decode b_MF_say 1 = .ok (.bipush 33, 2) := by decide +kernel
theorem d_MF_say_3 : decode b_MF_say 3 = .ok (.if_icmp .lt 9, 3) := by decide +kernel
theorem d_MF_say_6 : decode b_MF_say 6 = .ok (.iload_n 1, 1) := by decide +kernel
theorem d_MF_say_7 : decode b_MF_say 7 = .ok (.bipush 126, 2) := by decide +kernel
theorem d_MF_say_9 : decode b_MF_say 9 = .ok (.if_icmp .le 6, 3) := by decide +kernel
theorem d_MF_say_12 : decode b_MF_say 12 = .ok (.bipush (-2), 2) := by decide +kernel
theorem d_MF_say_14 : decode b_MF_say 14 = .ok (.ireturn, 1) := by decide +kernel
theorem d_MF_say_15 : decode b_MF_say 15 = .ok (.aload_n 0, 1) := by decide +kernel
theorem d_MF_say_16 : decode b_MF_say 16 = .ok (.getfield 12, 3) := by decide +kernel
theorem d_MF_say_19 : decode b_MF_say 19 = .ok (.iload_n 1, 1) := by decide +kernel
theorem d_MF_say_20 : decode b_MF_say 20 = .ok (.invokevirtual 61, 3) := by decide +kernel
theorem d_MF_say_23 : decode b_MF_say 23 = .ok (.ifCond .eq 13, 3) := by decide +kernel
theorem d_MF_say_26 : decode b_MF_say 26 = .ok (.aload_n 0, 1) := by decide +kernel
theorem d_MF_say_27 : decode b_MF_say 27 = .ok (.getfield 12, 3) := by decide +kernel
theorem d_MF_say_30 : decode b_MF_say 30 = .ok (.invokevirtual 65, 3) := by decide +kernel
theorem d_MF_say_33 : decode b_MF_say 33 = .ok (.goto 5, 3) := by decide +kernel
theorem d_MF_say_36 : decode b_MF_say 36 = .ok (.bipush (-4), 2) := by decide +kernel
theorem d_MF_say_38 : decode b_MF_say 38 = .ok (.ireturn, 1) := by decide +kernel
def f_MF_say (h : Hp) (l0 : Nat) (l1 : Int32) : Option (Int32 × Hp) :=
  ck h 8 l0 (
    if l1 < (33 : Int32) then (
      some ((-2 : Int32), h)
    ) else (
      if l1 ≤ (126 : Int32) then (
        (gR h 8 l0 0).bind fun t1 =>
        (f_Pad_add h t1 l1).bind fun q2 =>
        (
          if q2.1 = (0 : Int32) then (
            some (-4 : Int32)
          ) else (
            (gR q2.2 8 l0 0).bind fun t4 =>
            (f_Pad_size q2.2 t4).bind fun t5 =>
            some t5
          )
        ).bind fun t3 =>
        some (t3, q2.2)
      ) else (
        some ((-2 : Int32), h)
      )
    )
  )
theorem o_MF_say {h : Hp} {l0 : Nat} {l1 : Int32} {r : (Int32 × Hp)} (hM : f_MF_say h l0 l1 = some r) : isO h 8 l0 = true := by
  unfold f_MF_say at hM
  exact (ck_some hM).1
set_option maxHeartbeats 4000000 in
set_option maxRecDepth 100000 in
theorem t_MF_say {h : Hp} {l0 : Nat} {l1 : Int32} {r : (Int32 × Hp)} (C : Cx base D cI cZ b_MF_say 2 "MovedFolders" "say" (some .int) p s m args meth c) (hM : f_MF_say h l0 l1 = some r) (H : Heap) (locs : List Loc) (ls : Array Slot) (hS : RS base D cI cZ s H locs h) (hl : lv_has ls 2 [(0, .ref (base + l0)), (1, .int l1)]) : Wg l base D cI cZ 1 21 0 0 r.2 (some (.int r.1)) p e s m args below meth c H locs 0 0 (F0 m 0 ls []) := by
  have hx := C.1
  have hb := C.2.1
  unfold f_MF_say at hM
  replace hM := (ck_some hM).2
  refine lv_iload_n hx hb d_MF_say_0 rfl (lv_at hl 1 rfl) ?_
  refine lv_bipush (v := (33 : Int32)) hx hb d_MF_say_1 (by decide) ?_
  refine lv_icmp_lt (tgt := 12) hx hb d_MF_say_3 (by decide) (fun c3_1 => ?_) (fun c3_1 => ?_)
  · rw [if_pos c3_1] at hM
    refine lv_bipush (v := (-2 : Int32)) hx hb d_MF_say_12 (by decide) ?_
    obtain rfl := Option.some.inj hM
    exact r_iret C hS d_MF_say_14
  · rw [if_neg c3_1] at hM
    refine lv_iload_n hx hb d_MF_say_6 rfl (lv_at hl 1 rfl) ?_
    refine lv_bipush (v := (126 : Int32)) hx hb d_MF_say_7 (by decide) ?_
    refine lv_icmp_le (tgt := 15) hx hb d_MF_say_9 (by decide) (fun c9_2 => ?_) (fun c9_2 => ?_)
    · rw [if_pos c9_2] at hM
      refine lv_aload_n hx hb d_MF_say_15 rfl (lv_at hl 0 rfl) ?_
      obtain ⟨t1, et1, hM⟩ := bS hM
      refine r_getR C hS fl_MF_12 et1 d_MF_say_16 ?_
      refine lv_iload_n hx hb d_MF_say_19 rfl (lv_at hl 1 rfl) ?_
      obtain ⟨q2, eq2, hM⟩ := bS hM
      refine r_callVi (x := q2.1) C hS cv_MF_61 (c_Pad_add l base D cI cZ h t1 l1 eq2) (o_Pad_add eq2) (rest := []) rfl hl.1 rfl (Nat.le_of_ble_eq_true rfl) ⟨(Nat.le_of_ble_eq_true rfl), (Nat.le_of_ble_eq_true rfl)⟩ ⟨(Nat.le_of_ble_eq_true rfl), (Nat.le_of_ble_eq_true rfl)⟩ d_MF_say_20 (fun H locs hS => ?_)
      obtain ⟨t3, et3, hM⟩ := bS hM
      have kJ38_3 : ∀ (H : Heap) (locs : List Loc) (ls : Array Slot), RS base D cI cZ s H locs q2.2 → lv_has ls 2 [] → Wg l base D cI cZ 1 21 0 0 r.2 (some (.int r.1)) p e s m args below meth c H locs 0 0 (F0 m 38 ls [.int t3]) := by
        intro H locs ls hS hl
        obtain rfl := Option.some.inj hM
        exact r_iret C hS d_MF_say_38
      refine lv_if_eq (tgt := 36) hx hb d_MF_say_23 (by decide) (fun c23_4 => ?_) (fun c23_4 => ?_)
      · rw [if_pos c23_4] at et3
        refine lv_bipush (v := (-4 : Int32)) hx hb d_MF_say_36 (by decide) ?_
        obtain rfl := Option.some.inj et3
        exact kJ38_3 _ _ _ hS (lv_sub hl [] rfl)
      · rw [if_neg c23_4] at et3
        refine lv_aload_n hx hb d_MF_say_26 rfl (lv_at hl 0 rfl) ?_
        obtain ⟨t4, et4, et3⟩ := bS et3
        refine r_getR C hS fl_MF_12 et4 d_MF_say_27 ?_
        obtain ⟨t5, et5, et3⟩ := bS et3
        refine r_callVi (x := t5) C hS cv_MF_65 (c_Pad_size l base D cI cZ q2.2 t4 et5) (o_Pad_size et5) (rest := []) rfl hl.1 rfl (Nat.le_of_ble_eq_true rfl) ⟨(Nat.le_of_ble_eq_true rfl), (Nat.le_of_ble_eq_true rfl)⟩ ⟨(Nat.le_of_ble_eq_true rfl), (Nat.le_of_ble_eq_true rfl)⟩ d_MF_say_30 (fun H locs hS => ?_)
        refine lv_goto (tgt := 38) hx hb d_MF_say_33 (by decide) ?_
        obtain rfl := Option.some.inj et3
        exact kJ38_3 _ _ _ hS (lv_sub hl [] rfl)
    · rw [if_neg c9_2] at hM
      refine lv_bipush (v := (-2 : Int32)) hx hb d_MF_say_12 (by decide) ?_
      obtain rfl := Option.some.inj hM
      exact r_iret C hS d_MF_say_14
theorem c_MF_say (l : Launch) (base : Nat) (D : va_G) (cI cZ : ClassId) (h : Hp) (l0 : Nat) (l1 : Int32) {r : (Int32 × Hp)} (hM : f_MF_say h l0 l1 = some r) : Ct l base D cI cZ y_MF_say b_MF_say 2 (some .int) 1 21 0 0 h [.ref (base + l0), .int l1] r.2 (some (.int r.1)) :=
  ct_of (by decide) (Nat.le_of_ble_eq_true rfl) (fun p e s m below meth c ls C hS hl => t_MF_say C hM _ _ _ hS hl)
theorem d_MF_wipe_0 : decode b_MF_wipe 0 = .ok (.aload_n 0, 1) := by decide +kernel
theorem d_MF_wipe_1 : decode b_MF_wipe 1 = .ok (.getfield 12, 3) := by decide +kernel
theorem d_MF_wipe_4 : decode b_MF_wipe 4 = .ok (.invokevirtual 65, 3) := by decide +kernel
theorem d_MF_wipe_7 : decode b_MF_wipe 7 = .ok (.istore_n 1, 1) := by decide +kernel
theorem d_MF_wipe_8 : decode b_MF_wipe 8 = .ok (.aload_n 0, 1) := by decide +kernel
theorem d_MF_wipe_9 : decode b_MF_wipe 9 = .ok (.getfield 12, 3) := by decide +kernel
theorem d_MF_wipe_12 : decode b_MF_wipe 12 = .ok (.invokevirtual 69, 3) := by decide +kernel
theorem d_MF_wipe_15 : decode b_MF_wipe 15 = .ok (.iload_n 1, 1) := by decide +kernel
theorem d_MF_wipe_16 : decode b_MF_wipe 16 = .ok (.ireturn, 1) := by decide +kernel
def f_MF_wipe (h : Hp) (l0 : Nat) : Option (Int32 × Hp) :=
  ck h 8 l0 (
    (gR h 8 l0 0).bind fun t1 =>
    (f_Pad_size h t1).bind fun t2 =>
    (gR h 8 l0 0).bind fun t3 =>
    (f_Pad_clear h t3).bind fun h4 =>
    some (t2, h4)
  )
theorem o_MF_wipe {h : Hp} {l0 : Nat} {r : (Int32 × Hp)} (hM : f_MF_wipe h l0 = some r) : isO h 8 l0 = true := by
  unfold f_MF_wipe at hM
  exact (ck_some hM).1
set_option maxHeartbeats 4000000 in
set_option maxRecDepth 100000 in
theorem t_MF_wipe {h : Hp} {l0 : Nat} {r : (Int32 × Hp)} (C : Cx base D cI cZ b_MF_wipe 2 "MovedFolders" "wipe" (some .int) p s m args meth c) (hM : f_MF_wipe h l0 = some r) (H : Heap) (locs : List Loc) (ls : Array Slot) (hS : RS base D cI cZ s H locs h) (hl : lv_has ls 2 [(0, .ref (base + l0))]) : Wg l base D cI cZ 1 20 0 0 r.2 (some (.int r.1)) p e s m args below meth c H locs 0 0 (F0 m 0 ls []) := by
  have hx := C.1
  have hb := C.2.1
  unfold f_MF_wipe at hM
  replace hM := (ck_some hM).2
  refine lv_aload_n hx hb d_MF_wipe_0 rfl (lv_at hl 0 rfl) ?_
  obtain ⟨t1, et1, hM⟩ := bS hM
  refine r_getR C hS fl_MF_12 et1 d_MF_wipe_1 ?_
  obtain ⟨t2, et2, hM⟩ := bS hM
  refine r_callVi (x := t2) C hS cv_MF_65 (c_Pad_size l base D cI cZ h t1 et2) (o_Pad_size et2) (rest := []) rfl hl.1 rfl (Nat.le_of_ble_eq_true rfl) ⟨(Nat.le_of_ble_eq_true rfl), (Nat.le_of_ble_eq_true rfl)⟩ ⟨(Nat.le_of_ble_eq_true rfl), (Nat.le_of_ble_eq_true rfl)⟩ d_MF_wipe_4 (fun H locs hS => ?_)
  refine lv_istore_n (lv' := [(1, .int t2), (0, .ref (base + l0))]) hx hb d_MF_wipe_7 rfl hl (by decide) rfl (fun ls hl => ?_)
  refine lv_aload_n hx hb d_MF_wipe_8 rfl (lv_at hl 1 rfl) ?_
  obtain ⟨t3, et3, hM⟩ := bS hM
  refine r_getR C hS fl_MF_12 et3 d_MF_wipe_9 ?_
  obtain ⟨h4, eh4, hM⟩ := bS hM
  refine r_callVv C hS cv_MF_69 (c_Pad_clear l base D cI cZ h t3 eh4) (o_Pad_clear eh4) (rest := []) rfl hl.1 rfl (Nat.le_of_ble_eq_true rfl) ⟨(Nat.le_of_ble_eq_true rfl), (Nat.le_of_ble_eq_true rfl)⟩ ⟨(Nat.le_of_ble_eq_true rfl), (Nat.le_of_ble_eq_true rfl)⟩ d_MF_wipe_12 (fun H locs hS => ?_)
  refine lv_iload_n hx hb d_MF_wipe_15 rfl (lv_at hl 0 rfl) ?_
  obtain rfl := Option.some.inj hM
  exact r_iret C hS d_MF_wipe_16
theorem c_MF_wipe (l : Launch) (base : Nat) (D : va_G) (cI cZ : ClassId) (h : Hp) (l0 : Nat) {r : (Int32 × Hp)} (hM : f_MF_wipe h l0 = some r) : Ct l base D cI cZ y_MF_wipe b_MF_wipe 2 (some .int) 1 20 0 0 h [.ref (base + l0)] r.2 (some (.int r.1)) :=
  ct_of (by decide) (Nat.le_of_ble_eq_true rfl) (fun p e s m below meth c ls C hS hl => t_MF_wipe C hM _ _ _ hS hl)
theorem d_MF_fault_0 : decode b_MF_fault 0 = .ok (.aload_n 0, 1) := by decide +kernel
theorem d_MF_fault_1 : decode b_MF_fault 1 = .ok (.getfield 12, 3) := by decide +kernel
theorem d_MF_fault_4 : decode b_MF_fault 4 = .ok (.invokevirtual 72, 3) := by decide +kernel
theorem d_MF_fault_7 : decode b_MF_fault 7 = .ok (.ireturn, 1) := by decide +kernel
def f_MF_fault (h : Hp) (l0 : Nat) : Option Int32 :=
  ck h 8 l0 (
    (gR h 8 l0 0).bind fun t1 =>
    (f_Pad_firstWrong h t1).bind fun t2 =>
    some t2
  )
theorem o_MF_fault {h : Hp} {l0 : Nat} {r : Int32} (hM : f_MF_fault h l0 = some r) : isO h 8 l0 = true := by
  unfold f_MF_fault at hM
  exact (ck_some hM).1
set_option maxHeartbeats 4000000 in
set_option maxRecDepth 100000 in
theorem t_MF_fault {h : Hp} {l0 : Nat} {r : Int32} (C : Cx base D cI cZ b_MF_fault 1 "MovedFolders" "fault" (some .int) p s m args meth c) (hM : f_MF_fault h l0 = some r) (H : Heap) (locs : List Loc) (ls : Array Slot) (hS : RS base D cI cZ s H locs h) (hl : lv_has ls 1 [(0, .ref (base + l0))]) : Wg l base D cI cZ 5 110 0 0 h (some (.int r)) p e s m args below meth c H locs 0 0 (F0 m 0 ls []) := by
  have hx := C.1
  have hb := C.2.1
  unfold f_MF_fault at hM
  replace hM := (ck_some hM).2
  refine lv_aload_n hx hb d_MF_fault_0 rfl (lv_at hl 0 rfl) ?_
  obtain ⟨t1, et1, hM⟩ := bS hM
  refine r_getR C hS fl_MF_12 et1 d_MF_fault_1 ?_
  obtain ⟨t2, et2, hM⟩ := bS hM
  refine r_callVi (x := t2) C hS cv_MF_72 (c_Pad_firstWrong l base D cI cZ h t1 et2) (o_Pad_firstWrong et2) (rest := []) rfl hl.1 rfl (Nat.le_of_ble_eq_true rfl) ⟨(Nat.le_of_ble_eq_true rfl), (Nat.le_of_ble_eq_true rfl)⟩ ⟨(Nat.le_of_ble_eq_true rfl), (Nat.le_of_ble_eq_true rfl)⟩ d_MF_fault_4 (fun H locs hS => ?_)
  obtain rfl := Option.some.inj hM
  exact r_iret C hS d_MF_fault_7
theorem c_MF_fault (l : Launch) (base : Nat) (D : va_G) (cI cZ : ClassId) (h : Hp) (l0 : Nat) {r : Int32} (hM : f_MF_fault h l0 = some r) : Ct l base D cI cZ y_MF_fault b_MF_fault 1 (some .int) 5 110 0 0 h [.ref (base + l0)] h (some (.int r)) :=
  ct_of (by decide) (Nat.le_of_ble_eq_true rfl) (fun p e s m below meth c ls C hS hl => t_MF_fault C hM _ _ _ hS hl)
theorem d_MF_isSide_0 : decode b_MF_isSide 0 = .ok (.iload_n 0, 1) := by decide +kernel
theorem d_MF_isSide_1 : decode b_MF_isSide 1 = .ok (.iconst 1, 1) := by decide +kernel
theorem d_MF_isSide_2 : decode b_MF_isSide 2 = .ok (.if_icmp .eq 8, 3) := by decide +kernel
theorem d_MF_isSide_5 : decode b_MF_isSide 5 = .ok (.iload_n 0, 1) := by decide +kernel
theorem d_MF_isSide_6 : decode b_MF_isSide 6 = .ok (.iconst 2, 1) := by decide +kernel
theorem d_MF_isSide_7 : decode b_MF_isSide 7 = .ok (.if_icmp .ne 7, 3) := by decide +kernel
theorem d_MF_isSide_10 : decode b_MF_isSide 10 = .ok (.iconst 1, 1) := by decide +kernel
theorem d_MF_isSide_11 : decode b_MF_isSide 11 = .ok (.goto 4, 3) := by decide +kernel
theorem d_MF_isSide_14 : decode b_MF_isSide 14 = .ok (.iconst 0, 1) := by decide +kernel
theorem d_MF_isSide_15 : decode b_MF_isSide 15 = .ok (.ireturn, 1) := by decide +kernel
def f_MF_isSide (l0 : Int32) : Option Int32 :=
  rz (if l0 = (1 : Int32) then ((1 : Int32)) else (if l0 = (2 : Int32) then ((1 : Int32)) else ((0 : Int32))))
set_option maxHeartbeats 4000000 in
set_option maxRecDepth 100000 in
theorem t_MF_isSide {h : Hp} {l0 : Int32} {r : Int32} (C : Cx base D cI cZ b_MF_isSide 1 "MovedFolders" "isSide" (some .boolean) p s m args meth c) (hM : f_MF_isSide l0 = some r) (H : Heap) (locs : List Loc) (ls : Array Slot) (hS : RS base D cI cZ s H locs h) (hl : lv_has ls 1 [(0, .int l0)]) : Wg l base D cI cZ 0 0 0 0 h (some (.int r)) p e s m args below meth c H locs 0 0 (F0 m 0 ls []) := by
  have hx := C.1
  have hb := C.2.1
  unfold f_MF_isSide at hM
  refine lv_iload_n hx hb d_MF_isSide_0 rfl (lv_at hl 0 rfl) ?_
  refine lv_iconst (v := (1 : Int32)) hx hb d_MF_isSide_1 (by decide) ?_
  have kJ15_1 : ∀ (H : Heap) (locs : List Loc) (ls : Array Slot), RS base D cI cZ s H locs h → lv_has ls 1 [] → Wg l base D cI cZ 0 0 0 0 h (some (.int r)) p e s m args below meth c H locs 0 0 (F0 m 15 ls [.int (if l0 = (1 : Int32) then ((1 : Int32)) else (if l0 = (2 : Int32) then ((1 : Int32)) else ((0 : Int32))))]) := by
    intro H locs ls hS hl
    exact r_zret C hS hM d_MF_isSide_15
  refine lv_icmp_eq (tgt := 10) hx hb d_MF_isSide_2 (by decide) (fun c2_2 => ?_) (fun c2_2 => ?_)
  · rw [if_pos c2_2] at kJ15_1
    refine lv_iconst (v := (1 : Int32)) hx hb d_MF_isSide_10 (by decide) ?_
    refine lv_goto (tgt := 15) hx hb d_MF_isSide_11 (by decide) ?_
    exact kJ15_1 _ _ _ hS (lv_sub hl [] rfl)
  · rw [if_neg c2_2] at kJ15_1
    refine lv_iload_n hx hb d_MF_isSide_5 rfl (lv_at hl 0 rfl) ?_
    refine lv_iconst (v := (2 : Int32)) hx hb d_MF_isSide_6 (by decide) ?_
    refine lv_icmp_ne (tgt := 14) hx hb d_MF_isSide_7 (by decide) (fun c7_3 => ?_) (fun c7_3 => ?_)
    · rw [if_neg c7_3] at kJ15_1
      refine lv_iconst (v := (0 : Int32)) hx hb d_MF_isSide_14 (by decide) ?_
      exact kJ15_1 _ _ _ hS (lv_sub hl [] rfl)
    · rw [if_pos c7_3] at kJ15_1
      refine lv_iconst (v := (1 : Int32)) hx hb d_MF_isSide_10 (by decide) ?_
      refine lv_goto (tgt := 15) hx hb d_MF_isSide_11 (by decide) ?_
      exact kJ15_1 _ _ _ hS (lv_sub hl [] rfl)
theorem c_MF_isSide (l : Launch) (base : Nat) (D : va_G) (cI cZ : ClassId) (h : Hp) (l0 : Int32) {r : Int32} (hM : f_MF_isSide l0 = some r) : Ct l base D cI cZ y_MF_isSide b_MF_isSide 1 (some .boolean) 0 0 0 0 h [.int l0] h (some (.int r)) :=
  ct_of (by decide) (Nat.le_of_ble_eq_true rfl) (fun p e s m below meth c ls C hS hl => t_MF_isSide C hM _ _ _ hS hl)
theorem d_MF_isTree_0 : decode b_MF_isTree 0 = .ok (.iload_n 0, 1) := by decide +kernel
theorem d_MF_isTree_1 : decode b_MF_isTree 1 = .ok (.ifCond .eq 10, 3) := by decide +kernel
theorem d_MF_isTree_4 : decode b_MF_isTree 4 = .ok (.iload_n 0, 1) := by decide +kernel
theorem d_MF_isTree_5 : decode b_MF_isTree 5 = .ok (.invokestatic 109, 3) := by decide +kernel
theorem d_MF_isTree_8 : decode b_MF_isTree 8 = .ok (.ifCond .eq 7, 3) := by decide +kernel
theorem d_MF_isTree_11 : decode b_MF_isTree 11 = .ok (.iconst 1, 1) := by decide +kernel
theorem d_MF_isTree_12 : decode b_MF_isTree 12 = .ok (.goto 4, 3) := by decide +kernel
theorem d_MF_isTree_15 : decode b_MF_isTree 15 = .ok (.iconst 0, 1) := by decide +kernel
theorem d_MF_isTree_16 : decode b_MF_isTree 16 = .ok (.ireturn, 1) := by decide +kernel
def f_MF_isTree (l0 : Int32) : Option Int32 :=
  (
    if l0 = (0 : Int32) then (
      some (1 : Int32)
    ) else (
      (f_MF_isSide l0).bind fun t2 =>
      if t2 = (0 : Int32) then (
        some (0 : Int32)
      ) else (
        some (1 : Int32)
      )
    )
  ).bind fun t1 =>
  rz t1
set_option maxHeartbeats 4000000 in
set_option maxRecDepth 100000 in
theorem t_MF_isTree {h : Hp} {l0 : Int32} {r : Int32} (C : Cx base D cI cZ b_MF_isTree 1 "MovedFolders" "isTree" (some .boolean) p s m args meth c) (hM : f_MF_isTree l0 = some r) (H : Heap) (locs : List Loc) (ls : Array Slot) (hS : RS base D cI cZ s H locs h) (hl : lv_has ls 1 [(0, .int l0)]) : Wg l base D cI cZ 1 20 0 0 h (some (.int r)) p e s m args below meth c H locs 0 0 (F0 m 0 ls []) := by
  have hx := C.1
  have hb := C.2.1
  unfold f_MF_isTree at hM
  refine lv_iload_n hx hb d_MF_isTree_0 rfl (lv_at hl 0 rfl) ?_
  obtain ⟨t1, et1, hM⟩ := bS hM
  have kJ16_1 : ∀ (H : Heap) (locs : List Loc) (ls : Array Slot), RS base D cI cZ s H locs h → lv_has ls 1 [] → Wg l base D cI cZ 1 20 0 0 h (some (.int r)) p e s m args below meth c H locs 0 0 (F0 m 16 ls [.int t1]) := by
    intro H locs ls hS hl
    exact r_zret C hS hM d_MF_isTree_16
  refine lv_if_eq (tgt := 11) hx hb d_MF_isTree_1 (by decide) (fun c1_2 => ?_) (fun c1_2 => ?_)
  · rw [if_pos c1_2] at et1
    refine lv_iconst (v := (1 : Int32)) hx hb d_MF_isTree_11 (by decide) ?_
    refine lv_goto (tgt := 16) hx hb d_MF_isTree_12 (by decide) ?_
    obtain rfl := Option.some.inj et1
    exact kJ16_1 _ _ _ hS (lv_sub hl [] rfl)
  · rw [if_neg c1_2] at et1
    refine lv_iload_n hx hb d_MF_isTree_4 rfl (lv_at hl 0 rfl) ?_
    obtain ⟨t2, et2, et1⟩ := bS et1
    refine r_callSi (x := t2) C hS cs_MF_109 (c_MF_isSide l base D cI cZ h l0 et2) (rest := []) rfl hl.1 rfl (Nat.le_of_ble_eq_true rfl) ⟨(Nat.le_of_ble_eq_true rfl), (Nat.le_of_ble_eq_true rfl)⟩ ⟨(Nat.le_of_ble_eq_true rfl), (Nat.le_of_ble_eq_true rfl)⟩ d_MF_isTree_5 (fun H locs hS => ?_)
    refine lv_if_eq (tgt := 15) hx hb d_MF_isTree_8 (by decide) (fun c8_3 => ?_) (fun c8_3 => ?_)
    · rw [if_pos c8_3] at et1
      refine lv_iconst (v := (0 : Int32)) hx hb d_MF_isTree_15 (by decide) ?_
      obtain rfl := Option.some.inj et1
      exact kJ16_1 _ _ _ hS (lv_sub hl [] rfl)
    · rw [if_neg c8_3] at et1
      refine lv_iconst (v := (1 : Int32)) hx hb d_MF_isTree_11 (by decide) ?_
      refine lv_goto (tgt := 16) hx hb d_MF_isTree_12 (by decide) ?_
      obtain rfl := Option.some.inj et1
      exact kJ16_1 _ _ _ hS (lv_sub hl [] rfl)
theorem c_MF_isTree (l : Launch) (base : Nat) (D : va_G) (cI cZ : ClassId) (h : Hp) (l0 : Int32) {r : Int32} (hM : f_MF_isTree l0 = some r) : Ct l base D cI cZ y_MF_isTree b_MF_isTree 1 (some .boolean) 1 20 0 0 h [.int l0] h (some (.int r)) :=
  ct_of (by decide) (Nat.le_of_ble_eq_true rfl) (fun p e s m below meth c ls C hS hl => t_MF_isTree C hM _ _ _ hS hl)
theorem d_MF_treeOf_0 : decode b_MF_treeOf 0 = .ok (.iload_n 1, 1) := by decide +kernel
theorem d_MF_treeOf_1 : decode b_MF_treeOf 1 = .ok (.ifCond .ne 13, 3) := by decide +kernel
theorem d_MF_treeOf_4 : decode b_MF_treeOf 4 = .ok (.aload_n 0, 1) := by decide +kernel
theorem d_MF_treeOf_5 : decode b_MF_treeOf 5 = .ok (.getfield 19, 3) := by decide +kernel
theorem d_MF_treeOf_8 : decode b_MF_treeOf 8 = .ok (.getfield 112, 3) := by decide +kernel
theorem d_MF_treeOf_11 : decode b_MF_treeOf 11 = .ok (.goto 25, 3) := by decide +kernel
theorem d_MF_treeOf_14 : decode b_MF_treeOf 14 = .ok (.iload_n 1, 1) := by decide +kernel
theorem d_MF_treeOf_15 : decode b_MF_treeOf 15 = .ok (.iconst 1, 1) := by decide +kernel
theorem d_MF_treeOf_16 : decode b_MF_treeOf 16 = .ok (.if_icmp .ne 13, 3) := by decide +kernel
theorem d_MF_treeOf_19 : decode b_MF_treeOf 19 = .ok (.aload_n 0, 1) := by decide +kernel
theorem d_MF_treeOf_20 : decode b_MF_treeOf 20 = .ok (.getfield 19, 3) := by decide +kernel
theorem d_MF_treeOf_23 : decode b_MF_treeOf 23 = .ok (.getfield 189, 3) := by decide +kernel
theorem d_MF_treeOf_26 : decode b_MF_treeOf 26 = .ok (.goto 10, 3) := by decide +kernel
theorem d_MF_treeOf_29 : decode b_MF_treeOf 29 = .ok (.aload_n 0, 1) := by decide +kernel
theorem d_MF_treeOf_30 : decode b_MF_treeOf 30 = .ok (.getfield 19, 3) := by decide +kernel
theorem d_MF_treeOf_33 : decode b_MF_treeOf 33 = .ok (.getfield 192, 3) := by decide +kernel
theorem d_MF_treeOf_36 : decode b_MF_treeOf 36 = .ok (.areturn, 1) := by decide +kernel
def f_MF_treeOf (h : Hp) (l0 : Nat) (l1 : Int32) : Option Nat :=
  ck h 8 l0 (
    (
      if l1 = (0 : Int32) then (
        (gR h 8 l0 1).bind fun t6 =>
        (gR h 0 t6 0).bind fun t7 =>
        some t7
      ) else (
        if l1 = (1 : Int32) then (
          (gR h 8 l0 1).bind fun t4 =>
          (gR h 0 t4 1).bind fun t5 =>
          some t5
        ) else (
          (gR h 8 l0 1).bind fun t2 =>
          (gR h 0 t2 2).bind fun t3 =>
          some t3
        )
      )
    ).bind fun t1 =>
    some t1
  )
theorem o_MF_treeOf {h : Hp} {l0 : Nat} {l1 : Int32} {r : Nat} (hM : f_MF_treeOf h l0 l1 = some r) : isO h 8 l0 = true := by
  unfold f_MF_treeOf at hM
  exact (ck_some hM).1
set_option maxHeartbeats 4000000 in
set_option maxRecDepth 100000 in
theorem t_MF_treeOf {h : Hp} {l0 : Nat} {l1 : Int32} {r : Nat} (C : Cx base D cI cZ b_MF_treeOf 2 "MovedFolders" "treeOf" (some (.object "MovedFolders$Tree")) p s m args meth c) (hM : f_MF_treeOf h l0 l1 = some r) (H : Heap) (locs : List Loc) (ls : Array Slot) (hS : RS base D cI cZ s H locs h) (hl : lv_has ls 2 [(0, .ref (base + l0)), (1, .int l1)]) : Wg l base D cI cZ 0 0 0 0 h (some (.ref (base + r))) p e s m args below meth c H locs 0 0 (F0 m 0 ls []) := by
  have hx := C.1
  have hb := C.2.1
  unfold f_MF_treeOf at hM
  replace hM := (ck_some hM).2
  refine lv_iload_n hx hb d_MF_treeOf_0 rfl (lv_at hl 1 rfl) ?_
  obtain ⟨t1, et1, hM⟩ := bS hM
  have kJ36_1 : ∀ (H : Heap) (locs : List Loc) (ls : Array Slot), RS base D cI cZ s H locs h → lv_has ls 2 [] → Wg l base D cI cZ 0 0 0 0 h (some (.ref (base + r))) p e s m args below meth c H locs 0 0 (F0 m 36 ls [.ref (base + t1)]) := by
    intro H locs ls hS hl
    obtain rfl := Option.some.inj hM
    exact r_aret C hS d_MF_treeOf_36
  refine lv_if_ne (tgt := 14) hx hb d_MF_treeOf_1 (by decide) (fun c1_2 => ?_) (fun c1_2 => ?_)
  · rw [if_neg c1_2] at et1
    refine lv_iload_n hx hb d_MF_treeOf_14 rfl (lv_at hl 1 rfl) ?_
    refine lv_iconst (v := (1 : Int32)) hx hb d_MF_treeOf_15 (by decide) ?_
    refine lv_icmp_ne (tgt := 29) hx hb d_MF_treeOf_16 (by decide) (fun c16_3 => ?_) (fun c16_3 => ?_)
    · rw [if_neg c16_3] at et1
      refine lv_aload_n hx hb d_MF_treeOf_29 rfl (lv_at hl 0 rfl) ?_
      obtain ⟨t2, et2, et1⟩ := bS et1
      refine r_getR C hS fl_MF_19 et2 d_MF_treeOf_30 ?_
      obtain ⟨t3, et3, et1⟩ := bS et1
      refine r_getR C hS fl_MF_192 et3 d_MF_treeOf_33 ?_
      obtain rfl := Option.some.inj et1
      exact kJ36_1 _ _ _ hS (lv_sub hl [] rfl)
    · rw [if_pos c16_3] at et1
      refine lv_aload_n hx hb d_MF_treeOf_19 rfl (lv_at hl 0 rfl) ?_
      obtain ⟨t4, et4, et1⟩ := bS et1
      refine r_getR C hS fl_MF_19 et4 d_MF_treeOf_20 ?_
      obtain ⟨t5, et5, et1⟩ := bS et1
      refine r_getR C hS fl_MF_189 et5 d_MF_treeOf_23 ?_
      refine lv_goto (tgt := 36) hx hb d_MF_treeOf_26 (by decide) ?_
      obtain rfl := Option.some.inj et1
      exact kJ36_1 _ _ _ hS (lv_sub hl [] rfl)
  · rw [if_pos c1_2] at et1
    refine lv_aload_n hx hb d_MF_treeOf_4 rfl (lv_at hl 0 rfl) ?_
    obtain ⟨t6, et6, et1⟩ := bS et1
    refine r_getR C hS fl_MF_19 et6 d_MF_treeOf_5 ?_
    obtain ⟨t7, et7, et1⟩ := bS et1
    refine r_getR C hS fl_MF_112 et7 d_MF_treeOf_8 ?_
    refine lv_goto (tgt := 36) hx hb d_MF_treeOf_11 (by decide) ?_
    obtain rfl := Option.some.inj et1
    exact kJ36_1 _ _ _ hS (lv_sub hl [] rfl)
theorem c_MF_treeOf (l : Launch) (base : Nat) (D : va_G) (cI cZ : ClassId) (h : Hp) (l0 : Nat) (l1 : Int32) {r : Nat} (hM : f_MF_treeOf h l0 l1 = some r) : Ct l base D cI cZ y_MF_treeOf b_MF_treeOf 2 (some (.object "MovedFolders$Tree")) 0 0 0 0 h [.ref (base + l0), .int l1] h (some (.ref (base + r))) :=
  ct_of (by decide) (Nat.le_of_ble_eq_true rfl) (fun p e s m below meth c ls C hS hl => t_MF_treeOf C hM _ _ _ hS hl)
theorem d_MF_put_0 : decode b_MF_put 0 = .ok (.iload_n 1, 1) := by decide +kernel
theorem d_MF_put_1 : decode b_MF_put 1 = .ok (.invokestatic 75, 3) := by decide +kernel
theorem d_MF_put_4 : decode b_MF_put 4 = .ok (.ifCond .ne 5, 3) := by decide +kernel
theorem d_MF_put_7 : decode b_MF_put 7 = .ok (.iconst (-1), 1) := by decide +kernel
theorem d_MF_put_8 : decode b_MF_put 8 = .ok (.ireturn, 1) := by decide +kernel
theorem d_MF_put_9 : decode b_MF_put 9 = .ok (.aload_n 0, 1) := by decide +kernel
theorem d_MF_put_10 : decode b_MF_put 10 = .ok (.getfield 12, 3) := by decide +kernel
theorem d_MF_put_13 : decode b_MF_put 13 = .ok (.invokevirtual 72, 3) := by decide +kernel
theorem d_MF_put_16 : decode b_MF_put 16 = .ok (.bipush (-6), 2) := by decide +kernel
theorem d_MF_put_18 : decode b_MF_put 18 = .ok (.if_icmp .eq 6, 3) := by decide +kernel
theorem d_MF_put_21 : decode b_MF_put 21 = .ok (.bipush (-5), 2) := by decide +kernel
theorem d_MF_put_23 : decode b_MF_put 23 = .ok (.ireturn, 1) := by decide +kernel
theorem d_MF_put_24 : decode b_MF_put 24 = .ok (.aload_n 0, 1) := by decide +kernel
theorem d_MF_put_25 : decode b_MF_put 25 = .ok (.iload_n 1, 1) := by decide +kernel
theorem d_MF_put_26 : decode b_MF_put 26 = .ok (.invokevirtual 78, 3) := by decide +kernel
theorem d_MF_put_29 : decode b_MF_put 29 = .ok (.aload_n 0, 1) := by decide +kernel
theorem d_MF_put_30 : decode b_MF_put 30 = .ok (.getfield 12, 3) := by decide +kernel
theorem d_MF_put_33 : decode b_MF_put 33 = .ok (.invokevirtual 82, 3) := by decide +kernel
theorem d_MF_put_36 : decode b_MF_put 36 = .ok (.aload_n 0, 1) := by decide +kernel
theorem d_MF_put_37 : decode b_MF_put 37 = .ok (.getfield 12, 3) := by decide +kernel
theorem d_MF_put_40 : decode b_MF_put 40 = .ok (.invokevirtual 85, 3) := by decide +kernel
theorem d_MF_put_43 : decode b_MF_put 43 = .ok (.invokevirtual 88, 3) := by decide +kernel
theorem d_MF_put_46 : decode b_MF_put 46 = .ok (.ifCond .ne 6, 3) := by decide +kernel
theorem d_MF_put_49 : decode b_MF_put 49 = .ok (.bipush (-4), 2) := by decide +kernel
theorem d_MF_put_51 : decode b_MF_put 51 = .ok (.ireturn, 1) := by decide +kernel
theorem d_MF_put_52 : decode b_MF_put 52 = .ok (.aload_n 0, 1) := by decide +kernel
theorem d_MF_put_53 : decode b_MF_put 53 = .ok (.getfield 12, 3) := by decide +kernel
theorem d_MF_put_56 : decode b_MF_put 56 = .ok (.invokevirtual 69, 3) := by decide +kernel
theorem d_MF_put_59 : decode b_MF_put 59 = .ok (.aload_n 0, 1) := by decide +kernel
theorem d_MF_put_60 : decode b_MF_put 60 = .ok (.iconst 0, 1) := by decide +kernel
theorem d_MF_put_61 : decode b_MF_put 61 = .ok (.putfield 57, 3) := by decide +kernel
theorem d_MF_put_64 : decode b_MF_put 64 = .ok (.aload_n 0, 1) := by decide +kernel
theorem d_MF_put_65 : decode b_MF_put 65 = .ok (.iload_n 1, 1) := by decide +kernel
theorem d_MF_put_66 : decode b_MF_put 66 = .ok (.invokevirtual 78, 3) := by decide +kernel
theorem d_MF_put_69 : decode b_MF_put 69 = .ok (.invokevirtual 94, 3) := by decide +kernel
theorem d_MF_put_72 : decode b_MF_put 72 = .ok (.ireturn, 1) := by decide +kernel
def f_MF_put (h : Hp) (l0 : Nat) (l1 : Int32) : Option (Int32 × Hp) :=
  ck h 8 l0 (
    (f_MF_isTree l1).bind fun t1 =>
    if t1 = (0 : Int32) then (
      some ((-1 : Int32), h)
    ) else (
      (gR h 8 l0 0).bind fun t2 =>
      (f_Pad_firstWrong h t2).bind fun t3 =>
      if t3 = (-6 : Int32) then (
        (f_MF_treeOf h l0 l1).bind fun t4 =>
        (gR h 8 l0 0).bind fun t5 =>
        (f_Pad_readPath h t5).bind fun t6 =>
        (gR h 8 l0 0).bind fun t7 =>
        (f_Pad_readContent h t7).bind fun t8 =>
        (f_Tree_lay h t4 t6 t8).bind fun q9 =>
        if q9.1 = (0 : Int32) then (
          some ((-4 : Int32), q9.2)
        ) else (
          (gR q9.2 8 l0 0).bind fun t10 =>
          (f_Pad_clear q9.2 t10).bind fun h11 =>
          (sI h11 8 l0 9 (0 : Int32)).bind fun h12 =>
          (f_MF_treeOf h12 l0 l1).bind fun t13 =>
          (f_Tree_size h12 t13).bind fun t14 =>
          some (t14, h12)
        )
      ) else (
        some ((-5 : Int32), h)
      )
    )
  )
theorem o_MF_put {h : Hp} {l0 : Nat} {l1 : Int32} {r : (Int32 × Hp)} (hM : f_MF_put h l0 l1 = some r) : isO h 8 l0 = true := by
  unfold f_MF_put at hM
  exact (ck_some hM).1
set_option maxHeartbeats 4000000 in
set_option maxRecDepth 100000 in
theorem t_MF_put {h : Hp} {l0 : Nat} {l1 : Int32} {r : (Int32 × Hp)} (C : Cx base D cI cZ b_MF_put 2 "MovedFolders" "put" (some .int) p s m args meth c) (hM : f_MF_put h l0 l1 = some r) (H : Heap) (locs : List Loc) (ls : Array Slot) (hS : RS base D cI cZ s H locs h) (hl : lv_has ls 2 [(0, .ref (base + l0)), (1, .int l1)]) : Wg l base D cI cZ 5 112 0 0 r.2 (some (.int r.1)) p e s m args below meth c H locs 0 0 (F0 m 0 ls []) := by
  have hx := C.1
  have hb := C.2.1
  unfold f_MF_put at hM
  replace hM := (ck_some hM).2
  refine lv_iload_n hx hb d_MF_put_0 rfl (lv_at hl 1 rfl) ?_
  obtain ⟨t1, et1, hM⟩ := bS hM
  refine r_callSi (x := t1) C hS cs_MF_75 (c_MF_isTree l base D cI cZ h l1 et1) (rest := []) rfl hl.1 rfl (Nat.le_of_ble_eq_true rfl) ⟨(Nat.le_of_ble_eq_true rfl), (Nat.le_of_ble_eq_true rfl)⟩ ⟨(Nat.le_of_ble_eq_true rfl), (Nat.le_of_ble_eq_true rfl)⟩ d_MF_put_1 (fun H locs hS => ?_)
  refine lv_if_ne (tgt := 9) hx hb d_MF_put_4 (by decide) (fun c4_1 => ?_) (fun c4_1 => ?_)
  · rw [if_neg c4_1] at hM
    refine lv_aload_n hx hb d_MF_put_9 rfl (lv_at hl 0 rfl) ?_
    obtain ⟨t2, et2, hM⟩ := bS hM
    refine r_getR C hS fl_MF_12 et2 d_MF_put_10 ?_
    obtain ⟨t3, et3, hM⟩ := bS hM
    refine r_callVi (x := t3) C hS cv_MF_72 (c_Pad_firstWrong l base D cI cZ h t2 et3) (o_Pad_firstWrong et3) (rest := []) rfl hl.1 rfl (Nat.le_of_ble_eq_true rfl) ⟨(Nat.le_of_ble_eq_true rfl), (Nat.le_of_ble_eq_true rfl)⟩ ⟨(Nat.le_of_ble_eq_true rfl), (Nat.le_of_ble_eq_true rfl)⟩ d_MF_put_13 (fun H locs hS => ?_)
    refine lv_bipush (v := (-6 : Int32)) hx hb d_MF_put_16 (by decide) ?_
    refine lv_icmp_eq (tgt := 24) hx hb d_MF_put_18 (by decide) (fun c18_2 => ?_) (fun c18_2 => ?_)
    · rw [if_pos c18_2] at hM
      refine lv_aload_n hx hb d_MF_put_24 rfl (lv_at hl 0 rfl) ?_
      refine lv_iload_n hx hb d_MF_put_25 rfl (lv_at hl 1 rfl) ?_
      obtain ⟨t4, et4, hM⟩ := bS hM
      refine r_callVr (x := t4) C hS cv_MF_78 (c_MF_treeOf l base D cI cZ h l0 l1 et4) (o_MF_treeOf et4) (rest := []) rfl hl.1 rfl (Nat.le_of_ble_eq_true rfl) ⟨(Nat.le_of_ble_eq_true rfl), (Nat.le_of_ble_eq_true rfl)⟩ ⟨(Nat.le_of_ble_eq_true rfl), (Nat.le_of_ble_eq_true rfl)⟩ d_MF_put_26 (fun H locs hS => ?_)
      refine lv_aload_n hx hb d_MF_put_29 rfl (lv_at hl 0 rfl) ?_
      obtain ⟨t5, et5, hM⟩ := bS hM
      refine r_getR C hS fl_MF_12 et5 d_MF_put_30 ?_
      obtain ⟨t6, et6, hM⟩ := bS hM
      refine r_callVi (x := t6) C hS cv_MF_82 (c_Pad_readPath l base D cI cZ h t5 et6) (o_Pad_readPath et6) (rest := [.ref (base + t4)]) rfl hl.1 rfl (Nat.le_of_ble_eq_true rfl) ⟨(Nat.le_of_ble_eq_true rfl), (Nat.le_of_ble_eq_true rfl)⟩ ⟨(Nat.le_of_ble_eq_true rfl), (Nat.le_of_ble_eq_true rfl)⟩ d_MF_put_33 (fun H locs hS => ?_)
      refine lv_aload_n hx hb d_MF_put_36 rfl (lv_at hl 0 rfl) ?_
      obtain ⟨t7, et7, hM⟩ := bS hM
      refine r_getR C hS fl_MF_12 et7 d_MF_put_37 ?_
      obtain ⟨t8, et8, hM⟩ := bS hM
      refine r_callVi (x := t8) C hS cv_MF_85 (c_Pad_readContent l base D cI cZ h t7 et8) (o_Pad_readContent et8) (rest := [.int t6, .ref (base + t4)]) rfl hl.1 rfl (Nat.le_of_ble_eq_true rfl) ⟨(Nat.le_of_ble_eq_true rfl), (Nat.le_of_ble_eq_true rfl)⟩ ⟨(Nat.le_of_ble_eq_true rfl), (Nat.le_of_ble_eq_true rfl)⟩ d_MF_put_40 (fun H locs hS => ?_)
      obtain ⟨q9, eq9, hM⟩ := bS hM
      refine r_callVi (x := q9.1) C hS cv_MF_88 (c_Tree_lay l base D cI cZ h t4 t6 t8 eq9) (o_Tree_lay eq9) (rest := []) rfl hl.1 rfl (Nat.le_of_ble_eq_true rfl) ⟨(Nat.le_of_ble_eq_true rfl), (Nat.le_of_ble_eq_true rfl)⟩ ⟨(Nat.le_of_ble_eq_true rfl), (Nat.le_of_ble_eq_true rfl)⟩ d_MF_put_43 (fun H locs hS => ?_)
      refine lv_if_ne (tgt := 52) hx hb d_MF_put_46 (by decide) (fun c46_3 => ?_) (fun c46_3 => ?_)
      · rw [if_neg c46_3] at hM
        refine lv_aload_n hx hb d_MF_put_52 rfl (lv_at hl 0 rfl) ?_
        obtain ⟨t10, et10, hM⟩ := bS hM
        refine r_getR C hS fl_MF_12 et10 d_MF_put_53 ?_
        obtain ⟨h11, eh11, hM⟩ := bS hM
        refine r_callVv C hS cv_MF_69 (c_Pad_clear l base D cI cZ q9.2 t10 eh11) (o_Pad_clear eh11) (rest := []) rfl hl.1 rfl (Nat.le_of_ble_eq_true rfl) ⟨(Nat.le_of_ble_eq_true rfl), (Nat.le_of_ble_eq_true rfl)⟩ ⟨(Nat.le_of_ble_eq_true rfl), (Nat.le_of_ble_eq_true rfl)⟩ d_MF_put_56 (fun H locs hS => ?_)
        refine lv_aload_n hx hb d_MF_put_59 rfl (lv_at hl 0 rfl) ?_
        refine lv_iconst (v := (0 : Int32)) hx hb d_MF_put_60 (by decide) ?_
        obtain ⟨h12, eh12, hM⟩ := bS hM
        refine r_putZ C hS fp_MF_57 eh12 rfl rfl d_MF_put_61 (fun H locs hS => ?_)
        refine lv_aload_n hx hb d_MF_put_64 rfl (lv_at hl 0 rfl) ?_
        refine lv_iload_n hx hb d_MF_put_65 rfl (lv_at hl 1 rfl) ?_
        obtain ⟨t13, et13, hM⟩ := bS hM
        refine r_callVr (x := t13) C hS cv_MF_78 (c_MF_treeOf l base D cI cZ h12 l0 l1 et13) (o_MF_treeOf et13) (rest := []) rfl hl.1 rfl (Nat.le_of_ble_eq_true rfl) ⟨(Nat.le_of_ble_eq_true rfl), (Nat.le_of_ble_eq_true rfl)⟩ ⟨(Nat.le_of_ble_eq_true rfl), (Nat.le_of_ble_eq_true rfl)⟩ d_MF_put_66 (fun H locs hS => ?_)
        obtain ⟨t14, et14, hM⟩ := bS hM
        refine r_callVi (x := t14) C hS cv_MF_94 (c_Tree_size l base D cI cZ h12 t13 et14) (o_Tree_size et14) (rest := []) rfl hl.1 rfl (Nat.le_of_ble_eq_true rfl) ⟨(Nat.le_of_ble_eq_true rfl), (Nat.le_of_ble_eq_true rfl)⟩ ⟨(Nat.le_of_ble_eq_true rfl), (Nat.le_of_ble_eq_true rfl)⟩ d_MF_put_69 (fun H locs hS => ?_)
        obtain rfl := Option.some.inj hM
        exact r_iret C hS d_MF_put_72
      · rw [if_pos c46_3] at hM
        refine lv_bipush (v := (-4 : Int32)) hx hb d_MF_put_49 (by decide) ?_
        obtain rfl := Option.some.inj hM
        exact r_iret C hS d_MF_put_51
    · rw [if_neg c18_2] at hM
      refine lv_bipush (v := (-5 : Int32)) hx hb d_MF_put_21 (by decide) ?_
      obtain rfl := Option.some.inj hM
      exact r_iret C hS d_MF_put_23
  · rw [if_pos c4_1] at hM
    refine lv_iconst (v := (-1 : Int32)) hx hb d_MF_put_7 (by decide) ?_
    obtain rfl := Option.some.inj hM
    exact r_iret C hS d_MF_put_8
theorem c_MF_put (l : Launch) (base : Nat) (D : va_G) (cI cZ : ClassId) (h : Hp) (l0 : Nat) (l1 : Int32) {r : (Int32 × Hp)} (hM : f_MF_put h l0 l1 = some r) : Ct l base D cI cZ y_MF_put b_MF_put 2 (some .int) 5 112 0 0 h [.ref (base + l0), .int l1] r.2 (some (.int r.1)) :=
  ct_of (by decide) (Nat.le_of_ble_eq_true rfl) (fun p e s m below meth c ls C hS hl => t_MF_put C hM _ _ _ hS hl)
theorem d_MF_isFile_0 : decode b_MF_isFile 0 = .ok (.iload_n 1, 1) := by decide +kernel
theorem d_MF_isFile_1 : decode b_MF_isFile 1 = .ok (.invokestatic 75, 3) := by decide +kernel
theorem d_MF_isFile_4 : decode b_MF_isFile 4 = .ok (.ifCond .eq 19, 3) := by decide +kernel
theorem d_MF_isFile_7 : decode b_MF_isFile 7 = .ok (.aload_n 0, 1) := by decide +kernel
theorem d_MF_isFile_8 : decode b_MF_isFile 8 = .ok (.iload_n 1, 1) := by decide +kernel
theorem d_MF_isFile_9 : decode b_MF_isFile 9 = .ok (.invokevirtual 78, 3) := by decide +kernel
theorem d_MF_isFile_12 : decode b_MF_isFile 12 = .ok (.iload_n 2, 1) := by decide +kernel
theorem d_MF_isFile_13 : decode b_MF_isFile 13 = .ok (.invokevirtual 210, 3) := by decide +kernel
theorem d_MF_isFile_16 : decode b_MF_isFile 16 = .ok (.ifCond .eq 7, 3) := by decide +kernel
theorem d_MF_isFile_19 : decode b_MF_isFile 19 = .ok (.iconst 1, 1) := by decide +kernel
theorem d_MF_isFile_20 : decode b_MF_isFile 20 = .ok (.goto 4, 3) := by decide +kernel
theorem d_MF_isFile_23 : decode b_MF_isFile 23 = .ok (.iconst 0, 1) := by decide +kernel
theorem d_MF_isFile_24 : decode b_MF_isFile 24 = .ok (.ireturn, 1) := by decide +kernel
def f_MF_isFile (h : Hp) (l0 : Nat) (l1 : Int32) (l2 : Int32) : Option Int32 :=
  ck h 8 l0 (
    (f_MF_isTree l1).bind fun t1 =>
    (
      if t1 = (0 : Int32) then (
        some (0 : Int32)
      ) else (
        (f_MF_treeOf h l0 l1).bind fun t3 =>
        (f_Tree_has h t3 l2).bind fun t4 =>
        if t4 = (0 : Int32) then (
          some (0 : Int32)
        ) else (
          some (1 : Int32)
        )
      )
    ).bind fun t2 =>
    rz t2
  )
theorem o_MF_isFile {h : Hp} {l0 : Nat} {l1 : Int32} {l2 : Int32} {r : Int32} (hM : f_MF_isFile h l0 l1 l2 = some r) : isO h 8 l0 = true := by
  unfold f_MF_isFile at hM
  exact (ck_some hM).1
set_option maxHeartbeats 4000000 in
set_option maxRecDepth 100000 in
theorem t_MF_isFile {h : Hp} {l0 : Nat} {l1 : Int32} {l2 : Int32} {r : Int32} (C : Cx base D cI cZ b_MF_isFile 3 "MovedFolders" "isFile" (some .boolean) p s m args meth c) (hM : f_MF_isFile h l0 l1 l2 = some r) (H : Heap) (locs : List Loc) (ls : Array Slot) (hS : RS base D cI cZ s H locs h) (hl : lv_has ls 3 [(0, .ref (base + l0)), (1, .int l1), (2, .int l2)]) : Wg l base D cI cZ 2 40 0 0 h (some (.int r)) p e s m args below meth c H locs 0 0 (F0 m 0 ls []) := by
  have hx := C.1
  have hb := C.2.1
  unfold f_MF_isFile at hM
  replace hM := (ck_some hM).2
  refine lv_iload_n hx hb d_MF_isFile_0 rfl (lv_at hl 1 rfl) ?_
  obtain ⟨t1, et1, hM⟩ := bS hM
  refine r_callSi (x := t1) C hS cs_MF_75 (c_MF_isTree l base D cI cZ h l1 et1) (rest := []) rfl hl.1 rfl (Nat.le_of_ble_eq_true rfl) ⟨(Nat.le_of_ble_eq_true rfl), (Nat.le_of_ble_eq_true rfl)⟩ ⟨(Nat.le_of_ble_eq_true rfl), (Nat.le_of_ble_eq_true rfl)⟩ d_MF_isFile_1 (fun H locs hS => ?_)
  obtain ⟨t2, et2, hM⟩ := bS hM
  have kJ24_1 : ∀ (H : Heap) (locs : List Loc) (ls : Array Slot), RS base D cI cZ s H locs h → lv_has ls 3 [] → Wg l base D cI cZ 2 40 0 0 h (some (.int r)) p e s m args below meth c H locs 0 0 (F0 m 24 ls [.int t2]) := by
    intro H locs ls hS hl
    exact r_zret C hS hM d_MF_isFile_24
  refine lv_if_eq (tgt := 23) hx hb d_MF_isFile_4 (by decide) (fun c4_2 => ?_) (fun c4_2 => ?_)
  · rw [if_pos c4_2] at et2
    refine lv_iconst (v := (0 : Int32)) hx hb d_MF_isFile_23 (by decide) ?_
    obtain rfl := Option.some.inj et2
    exact kJ24_1 _ _ _ hS (lv_sub hl [] rfl)
  · rw [if_neg c4_2] at et2
    refine lv_aload_n hx hb d_MF_isFile_7 rfl (lv_at hl 0 rfl) ?_
    refine lv_iload_n hx hb d_MF_isFile_8 rfl (lv_at hl 1 rfl) ?_
    obtain ⟨t3, et3, et2⟩ := bS et2
    refine r_callVr (x := t3) C hS cv_MF_78 (c_MF_treeOf l base D cI cZ h l0 l1 et3) (o_MF_treeOf et3) (rest := []) rfl hl.1 rfl (Nat.le_of_ble_eq_true rfl) ⟨(Nat.le_of_ble_eq_true rfl), (Nat.le_of_ble_eq_true rfl)⟩ ⟨(Nat.le_of_ble_eq_true rfl), (Nat.le_of_ble_eq_true rfl)⟩ d_MF_isFile_9 (fun H locs hS => ?_)
    refine lv_iload_n hx hb d_MF_isFile_12 rfl (lv_at hl 2 rfl) ?_
    obtain ⟨t4, et4, et2⟩ := bS et2
    refine r_callVi (x := t4) C hS cv_MF_210 (c_Tree_has l base D cI cZ h t3 l2 et4) (o_Tree_has et4) (rest := []) rfl hl.1 rfl (Nat.le_of_ble_eq_true rfl) ⟨(Nat.le_of_ble_eq_true rfl), (Nat.le_of_ble_eq_true rfl)⟩ ⟨(Nat.le_of_ble_eq_true rfl), (Nat.le_of_ble_eq_true rfl)⟩ d_MF_isFile_13 (fun H locs hS => ?_)
    refine lv_if_eq (tgt := 23) hx hb d_MF_isFile_16 (by decide) (fun c16_3 => ?_) (fun c16_3 => ?_)
    · rw [if_pos c16_3] at et2
      refine lv_iconst (v := (0 : Int32)) hx hb d_MF_isFile_23 (by decide) ?_
      obtain rfl := Option.some.inj et2
      exact kJ24_1 _ _ _ hS (lv_sub hl [] rfl)
    · rw [if_neg c16_3] at et2
      refine lv_iconst (v := (1 : Int32)) hx hb d_MF_isFile_19 (by decide) ?_
      refine lv_goto (tgt := 24) hx hb d_MF_isFile_20 (by decide) ?_
      obtain rfl := Option.some.inj et2
      exact kJ24_1 _ _ _ hS (lv_sub hl [] rfl)
theorem c_MF_isFile (l : Launch) (base : Nat) (D : va_G) (cI cZ : ClassId) (h : Hp) (l0 : Nat) (l1 : Int32) (l2 : Int32) {r : Int32} (hM : f_MF_isFile h l0 l1 l2 = some r) : Ct l base D cI cZ y_MF_isFile b_MF_isFile 3 (some .boolean) 2 40 0 0 h [.ref (base + l0), .int l1, .int l2] h (some (.int r)) :=
  ct_of (by decide) (Nat.le_of_ble_eq_true rfl) (fun p e s m below meth c ls C hS hl => t_MF_isFile C hM _ _ _ hS hl)
theorem d_MF_drop_0 : decode b_MF_drop 0 = .ok (.aload_n 0, 1) := by decide +kernel
theorem d_MF_drop_1 : decode b_MF_drop 1 = .ok (.iload_n 1, 1) := by decide +kernel
theorem d_MF_drop_2 : decode b_MF_drop 2 = .ok (.iload_n 2, 1) := by decide +kernel
theorem d_MF_drop_3 : decode b_MF_drop 3 = .ok (.invokevirtual 95, 3) := by decide +kernel
theorem d_MF_drop_6 : decode b_MF_drop 6 = .ok (.ifCond .ne 5, 3) := by decide +kernel
theorem d_MF_drop_9 : decode b_MF_drop 9 = .ok (.iconst (-1), 1) := by decide +kernel
theorem d_MF_drop_10 : decode b_MF_drop 10 = .ok (.ireturn, 1) := by decide +kernel
theorem d_MF_drop_11 : decode b_MF_drop 11 = .ok (.aload_n 0, 1) := by decide +kernel
theorem d_MF_drop_12 : decode b_MF_drop 12 = .ok (.iload_n 1, 1) := by decide +kernel
theorem d_MF_drop_13 : decode b_MF_drop 13 = .ok (.invokevirtual 78, 3) := by decide +kernel
theorem d_MF_drop_16 : decode b_MF_drop 16 = .ok (.iload_n 2, 1) := by decide +kernel
theorem d_MF_drop_17 : decode b_MF_drop 17 = .ok (.invokevirtual 98, 3) := by decide +kernel
theorem d_MF_drop_20 : decode b_MF_drop 20 = .ok (.aload_n 0, 1) := by decide +kernel
theorem d_MF_drop_21 : decode b_MF_drop 21 = .ok (.iconst 0, 1) := by decide +kernel
theorem d_MF_drop_22 : decode b_MF_drop 22 = .ok (.putfield 57, 3) := by decide +kernel
theorem d_MF_drop_25 : decode b_MF_drop 25 = .ok (.aload_n 0, 1) := by decide +kernel
theorem d_MF_drop_26 : decode b_MF_drop 26 = .ok (.iload_n 1, 1) := by decide +kernel
theorem d_MF_drop_27 : decode b_MF_drop 27 = .ok (.invokevirtual 78, 3) := by decide +kernel
theorem d_MF_drop_30 : decode b_MF_drop 30 = .ok (.invokevirtual 94, 3) := by decide +kernel
theorem d_MF_drop_33 : decode b_MF_drop 33 = .ok (.ireturn, 1) := by decide +kernel
def f_MF_drop (h : Hp) (l0 : Nat) (l1 : Int32) (l2 : Int32) : Option (Int32 × Hp) :=
  ck h 8 l0 (
    (f_MF_isFile h l0 l1 l2).bind fun t1 =>
    if t1 = (0 : Int32) then (
      some ((-1 : Int32), h)
    ) else (
      (f_MF_treeOf h l0 l1).bind fun t2 =>
      (f_Tree_remove h t2 l2).bind fun h3 =>
      (sI h3 8 l0 9 (0 : Int32)).bind fun h4 =>
      (f_MF_treeOf h4 l0 l1).bind fun t5 =>
      (f_Tree_size h4 t5).bind fun t6 =>
      some (t6, h4)
    )
  )
theorem o_MF_drop {h : Hp} {l0 : Nat} {l1 : Int32} {l2 : Int32} {r : (Int32 × Hp)} (hM : f_MF_drop h l0 l1 l2 = some r) : isO h 8 l0 = true := by
  unfold f_MF_drop at hM
  exact (ck_some hM).1
set_option maxHeartbeats 4000000 in
set_option maxRecDepth 100000 in
theorem t_MF_drop {h : Hp} {l0 : Nat} {l1 : Int32} {l2 : Int32} {r : (Int32 × Hp)} (C : Cx base D cI cZ b_MF_drop 3 "MovedFolders" "drop" (some .int) p s m args meth c) (hM : f_MF_drop h l0 l1 l2 = some r) (H : Heap) (locs : List Loc) (ls : Array Slot) (hS : RS base D cI cZ s H locs h) (hl : lv_has ls 3 [(0, .ref (base + l0)), (1, .int l1), (2, .int l2)]) : Wg l base D cI cZ 3 62 0 0 r.2 (some (.int r.1)) p e s m args below meth c H locs 0 0 (F0 m 0 ls []) := by
  have hx := C.1
  have hb := C.2.1
  unfold f_MF_drop at hM
  replace hM := (ck_some hM).2
  refine lv_aload_n hx hb d_MF_drop_0 rfl (lv_at hl 0 rfl) ?_
  refine lv_iload_n hx hb d_MF_drop_1 rfl (lv_at hl 1 rfl) ?_
  refine lv_iload_n hx hb d_MF_drop_2 rfl (lv_at hl 2 rfl) ?_
  obtain ⟨t1, et1, hM⟩ := bS hM
  refine r_callVi (x := t1) C hS cv_MF_95 (c_MF_isFile l base D cI cZ h l0 l1 l2 et1) (o_MF_isFile et1) (rest := []) rfl hl.1 rfl (Nat.le_of_ble_eq_true rfl) ⟨(Nat.le_of_ble_eq_true rfl), (Nat.le_of_ble_eq_true rfl)⟩ ⟨(Nat.le_of_ble_eq_true rfl), (Nat.le_of_ble_eq_true rfl)⟩ d_MF_drop_3 (fun H locs hS => ?_)
  refine lv_if_ne (tgt := 11) hx hb d_MF_drop_6 (by decide) (fun c6_1 => ?_) (fun c6_1 => ?_)
  · rw [if_neg c6_1] at hM
    refine lv_aload_n hx hb d_MF_drop_11 rfl (lv_at hl 0 rfl) ?_
    refine lv_iload_n hx hb d_MF_drop_12 rfl (lv_at hl 1 rfl) ?_
    obtain ⟨t2, et2, hM⟩ := bS hM
    refine r_callVr (x := t2) C hS cv_MF_78 (c_MF_treeOf l base D cI cZ h l0 l1 et2) (o_MF_treeOf et2) (rest := []) rfl hl.1 rfl (Nat.le_of_ble_eq_true rfl) ⟨(Nat.le_of_ble_eq_true rfl), (Nat.le_of_ble_eq_true rfl)⟩ ⟨(Nat.le_of_ble_eq_true rfl), (Nat.le_of_ble_eq_true rfl)⟩ d_MF_drop_13 (fun H locs hS => ?_)
    refine lv_iload_n hx hb d_MF_drop_16 rfl (lv_at hl 2 rfl) ?_
    obtain ⟨h3, eh3, hM⟩ := bS hM
    refine r_callVv C hS cv_MF_98 (c_Tree_remove l base D cI cZ h t2 l2 eh3) (o_Tree_remove eh3) (rest := []) rfl hl.1 rfl (Nat.le_of_ble_eq_true rfl) ⟨(Nat.le_of_ble_eq_true rfl), (Nat.le_of_ble_eq_true rfl)⟩ ⟨(Nat.le_of_ble_eq_true rfl), (Nat.le_of_ble_eq_true rfl)⟩ d_MF_drop_17 (fun H locs hS => ?_)
    refine lv_aload_n hx hb d_MF_drop_20 rfl (lv_at hl 0 rfl) ?_
    refine lv_iconst (v := (0 : Int32)) hx hb d_MF_drop_21 (by decide) ?_
    obtain ⟨h4, eh4, hM⟩ := bS hM
    refine r_putZ C hS fp_MF_57 eh4 rfl rfl d_MF_drop_22 (fun H locs hS => ?_)
    refine lv_aload_n hx hb d_MF_drop_25 rfl (lv_at hl 0 rfl) ?_
    refine lv_iload_n hx hb d_MF_drop_26 rfl (lv_at hl 1 rfl) ?_
    obtain ⟨t5, et5, hM⟩ := bS hM
    refine r_callVr (x := t5) C hS cv_MF_78 (c_MF_treeOf l base D cI cZ h4 l0 l1 et5) (o_MF_treeOf et5) (rest := []) rfl hl.1 rfl (Nat.le_of_ble_eq_true rfl) ⟨(Nat.le_of_ble_eq_true rfl), (Nat.le_of_ble_eq_true rfl)⟩ ⟨(Nat.le_of_ble_eq_true rfl), (Nat.le_of_ble_eq_true rfl)⟩ d_MF_drop_27 (fun H locs hS => ?_)
    obtain ⟨t6, et6, hM⟩ := bS hM
    refine r_callVi (x := t6) C hS cv_MF_94 (c_Tree_size l base D cI cZ h4 t5 et6) (o_Tree_size et6) (rest := []) rfl hl.1 rfl (Nat.le_of_ble_eq_true rfl) ⟨(Nat.le_of_ble_eq_true rfl), (Nat.le_of_ble_eq_true rfl)⟩ ⟨(Nat.le_of_ble_eq_true rfl), (Nat.le_of_ble_eq_true rfl)⟩ d_MF_drop_30 (fun H locs hS => ?_)
    obtain rfl := Option.some.inj hM
    exact r_iret C hS d_MF_drop_33
  · rw [if_pos c6_1] at hM
    refine lv_iconst (v := (-1 : Int32)) hx hb d_MF_drop_9 (by decide) ?_
    obtain rfl := Option.some.inj hM
    exact r_iret C hS d_MF_drop_10
theorem c_MF_drop (l : Launch) (base : Nat) (D : va_G) (cI cZ : ClassId) (h : Hp) (l0 : Nat) (l1 : Int32) (l2 : Int32) {r : (Int32 × Hp)} (hM : f_MF_drop h l0 l1 l2 = some r) : Ct l base D cI cZ y_MF_drop b_MF_drop 3 (some .int) 3 62 0 0 h [.ref (base + l0), .int l1, .int l2] r.2 (some (.int r.1)) :=
  ct_of (by decide) (Nat.le_of_ble_eq_true rfl) (fun p e s m below meth c ls C hS hl => t_MF_drop C hM _ _ _ hS hl)
theorem d_MF_file_0 : decode b_MF_file 0 = .ok (.aload_n 0, 1) := by decide +kernel
theorem d_MF_file_1 : decode b_MF_file 1 = .ok (.iload_n 1, 1) := by decide +kernel
theorem d_MF_file_2 : decode b_MF_file 2 = .ok (.iload_n 2, 1) := by decide +kernel
theorem d_MF_file_3 : decode b_MF_file 3 = .ok (.invokevirtual 95, 3) := by decide +kernel
theorem d_MF_file_6 : decode b_MF_file 6 = .ok (.ifCond .ne 5, 3) := by decide +kernel
theorem d_MF_file_9 : decode b_MF_file 9 = .ok (.iconst (-1), 1) := by decide +kernel
theorem d_MF_file_10 : decode b_MF_file 10 = .ok (.ireturn, 1) := by decide +kernel
theorem d_MF_file_11 : decode b_MF_file 11 = .ok (.iload_n 3, 1) := by decide +kernel
theorem d_MF_file_12 : decode b_MF_file 12 = .ok (.lookupswitch 48 #[(0, 28), (1, 38)], 28) := by decide +kernel
theorem d_MF_file_40 : decode b_MF_file 40 = .ok (.aload_n 0, 1) := by decide +kernel
theorem d_MF_file_41 : decode b_MF_file 41 = .ok (.iload_n 1, 1) := by decide +kernel
theorem d_MF_file_42 : decode b_MF_file 42 = .ok (.invokevirtual 78, 3) := by decide +kernel
theorem d_MF_file_45 : decode b_MF_file 45 = .ok (.iload_n 2, 1) := by decide +kernel
theorem d_MF_file_46 : decode b_MF_file 46 = .ok (.invokevirtual 102, 3) := by decide +kernel
theorem d_MF_file_49 : decode b_MF_file 49 = .ok (.ireturn, 1) := by decide +kernel
theorem d_MF_file_50 : decode b_MF_file 50 = .ok (.aload_n 0, 1) := by decide +kernel
theorem d_MF_file_51 : decode b_MF_file 51 = .ok (.iload_n 1, 1) := by decide +kernel
theorem d_MF_file_52 : decode b_MF_file 52 = .ok (.invokevirtual 78, 3) := by decide +kernel
theorem d_MF_file_55 : decode b_MF_file 55 = .ok (.iload_n 2, 1) := by decide +kernel
theorem d_MF_file_56 : decode b_MF_file 56 = .ok (.invokevirtual 106, 3) := by decide +kernel
theorem d_MF_file_59 : decode b_MF_file 59 = .ok (.ireturn, 1) := by decide +kernel
theorem d_MF_file_60 : decode b_MF_file 60 = .ok (.bipush (-2), 2) := by decide +kernel
theorem d_MF_file_62 : decode b_MF_file 62 = .ok (.ireturn, 1) := by decide +kernel
def f_MF_file (h : Hp) (l0 : Nat) (l1 : Int32) (l2 : Int32) (l3 : Int32) : Option Int32 :=
  ck h 8 l0 (
    (f_MF_isFile h l0 l1 l2).bind fun t1 =>
    if t1 = (0 : Int32) then (
      some (-1 : Int32)
    ) else (
      if l3 = (0 : Int32) then (
        (f_MF_treeOf h l0 l1).bind fun t2 =>
        (f_Tree_pathAt h t2 l2).bind fun t3 =>
        some t3
      ) else (
        if l3 = (1 : Int32) then (
          (f_MF_treeOf h l0 l1).bind fun t4 =>
          (f_Tree_contentAt h t4 l2).bind fun t5 =>
          some t5
        ) else (
          some (-2 : Int32)
      ))
    )
  )
theorem o_MF_file {h : Hp} {l0 : Nat} {l1 : Int32} {l2 : Int32} {l3 : Int32} {r : Int32} (hM : f_MF_file h l0 l1 l2 l3 = some r) : isO h 8 l0 = true := by
  unfold f_MF_file at hM
  exact (ck_some hM).1
set_option maxHeartbeats 4000000 in
set_option maxRecDepth 100000 in
theorem t_MF_file {h : Hp} {l0 : Nat} {l1 : Int32} {l2 : Int32} {l3 : Int32} {r : Int32} (C : Cx base D cI cZ b_MF_file 4 "MovedFolders" "file" (some .int) p s m args meth c) (hM : f_MF_file h l0 l1 l2 l3 = some r) (H : Heap) (locs : List Loc) (ls : Array Slot) (hS : RS base D cI cZ s H locs h) (hl : lv_has ls 4 [(0, .ref (base + l0)), (1, .int l1), (2, .int l2), (3, .int l3)]) : Wg l base D cI cZ 3 62 0 0 h (some (.int r)) p e s m args below meth c H locs 0 0 (F0 m 0 ls []) := by
  have hx := C.1
  have hb := C.2.1
  unfold f_MF_file at hM
  replace hM := (ck_some hM).2
  refine lv_aload_n hx hb d_MF_file_0 rfl (lv_at hl 0 rfl) ?_
  refine lv_iload_n hx hb d_MF_file_1 rfl (lv_at hl 1 rfl) ?_
  refine lv_iload_n hx hb d_MF_file_2 rfl (lv_at hl 2 rfl) ?_
  obtain ⟨t1, et1, hM⟩ := bS hM
  refine r_callVi (x := t1) C hS cv_MF_95 (c_MF_isFile l base D cI cZ h l0 l1 l2 et1) (o_MF_isFile et1) (rest := []) rfl hl.1 rfl (Nat.le_of_ble_eq_true rfl) ⟨(Nat.le_of_ble_eq_true rfl), (Nat.le_of_ble_eq_true rfl)⟩ ⟨(Nat.le_of_ble_eq_true rfl), (Nat.le_of_ble_eq_true rfl)⟩ d_MF_file_3 (fun H locs hS => ?_)
  refine lv_if_ne (tgt := 11) hx hb d_MF_file_6 (by decide) (fun c6_1 => ?_) (fun c6_1 => ?_)
  · rw [if_neg c6_1] at hM
    refine lv_iload_n hx hb d_MF_file_11 rfl (lv_at hl 3 rfl) ?_
    by_cases c12_2 : l3 = (0 : Int32)
    · rw [if_pos c12_2] at hM
      refine lv_lookup (off := 28) (tgt := 40) hx hb d_MF_file_12 (by decide) (by rw [c12_2]; rfl) (by decide) ?_
      refine lv_aload_n hx hb d_MF_file_40 rfl (lv_at hl 0 rfl) ?_
      refine lv_iload_n hx hb d_MF_file_41 rfl (lv_at hl 1 rfl) ?_
      obtain ⟨t2, et2, hM⟩ := bS hM
      refine r_callVr (x := t2) C hS cv_MF_78 (c_MF_treeOf l base D cI cZ h l0 l1 et2) (o_MF_treeOf et2) (rest := []) rfl hl.1 rfl (Nat.le_of_ble_eq_true rfl) ⟨(Nat.le_of_ble_eq_true rfl), (Nat.le_of_ble_eq_true rfl)⟩ ⟨(Nat.le_of_ble_eq_true rfl), (Nat.le_of_ble_eq_true rfl)⟩ d_MF_file_42 (fun H locs hS => ?_)
      refine lv_iload_n hx hb d_MF_file_45 rfl (lv_at hl 2 rfl) ?_
      obtain ⟨t3, et3, hM⟩ := bS hM
      refine r_callVi (x := t3) C hS cv_MF_102 (c_Tree_pathAt l base D cI cZ h t2 l2 et3) (o_Tree_pathAt et3) (rest := []) rfl hl.1 rfl (Nat.le_of_ble_eq_true rfl) ⟨(Nat.le_of_ble_eq_true rfl), (Nat.le_of_ble_eq_true rfl)⟩ ⟨(Nat.le_of_ble_eq_true rfl), (Nat.le_of_ble_eq_true rfl)⟩ d_MF_file_46 (fun H locs hS => ?_)
      obtain rfl := Option.some.inj hM
      exact r_iret C hS d_MF_file_49
    rw [if_neg c12_2] at hM
    by_cases c12_3 : l3 = (1 : Int32)
    · rw [if_pos c12_3] at hM
      refine lv_lookup (off := 38) (tgt := 50) hx hb d_MF_file_12 (by decide) (by rw [c12_3]; rfl) (by decide) ?_
      refine lv_aload_n hx hb d_MF_file_50 rfl (lv_at hl 0 rfl) ?_
      refine lv_iload_n hx hb d_MF_file_51 rfl (lv_at hl 1 rfl) ?_
      obtain ⟨t4, et4, hM⟩ := bS hM
      refine r_callVr (x := t4) C hS cv_MF_78 (c_MF_treeOf l base D cI cZ h l0 l1 et4) (o_MF_treeOf et4) (rest := []) rfl hl.1 rfl (Nat.le_of_ble_eq_true rfl) ⟨(Nat.le_of_ble_eq_true rfl), (Nat.le_of_ble_eq_true rfl)⟩ ⟨(Nat.le_of_ble_eq_true rfl), (Nat.le_of_ble_eq_true rfl)⟩ d_MF_file_52 (fun H locs hS => ?_)
      refine lv_iload_n hx hb d_MF_file_55 rfl (lv_at hl 2 rfl) ?_
      obtain ⟨t5, et5, hM⟩ := bS hM
      refine r_callVi (x := t5) C hS cv_MF_106 (c_Tree_contentAt l base D cI cZ h t4 l2 et5) (o_Tree_contentAt et5) (rest := []) rfl hl.1 rfl (Nat.le_of_ble_eq_true rfl) ⟨(Nat.le_of_ble_eq_true rfl), (Nat.le_of_ble_eq_true rfl)⟩ ⟨(Nat.le_of_ble_eq_true rfl), (Nat.le_of_ble_eq_true rfl)⟩ d_MF_file_56 (fun H locs hS => ?_)
      obtain rfl := Option.some.inj hM
      exact r_iret C hS d_MF_file_59
    rw [if_neg c12_3] at hM
    refine lv_lookup (off := 48) (tgt := 60) hx hb d_MF_file_12 (by decide) (by show Op.lookupswitch.offset [(0, 28), (1, 38)] _ _ = _; rw [lv_osw (a := 0) c12_2 rfl, lv_osw (a := 1) c12_3 rfl]; rfl) (by decide) ?_
    refine lv_bipush (v := (-2 : Int32)) hx hb d_MF_file_60 (by decide) ?_
    obtain rfl := Option.some.inj hM
    exact r_iret C hS d_MF_file_62
  · rw [if_pos c6_1] at hM
    refine lv_iconst (v := (-1 : Int32)) hx hb d_MF_file_9 (by decide) ?_
    obtain rfl := Option.some.inj hM
    exact r_iret C hS d_MF_file_10
theorem c_MF_file (l : Launch) (base : Nat) (D : va_G) (cI cZ : ClassId) (h : Hp) (l0 : Nat) (l1 : Int32) (l2 : Int32) (l3 : Int32) {r : Int32} (hM : f_MF_file h l0 l1 l2 l3 = some r) : Ct l base D cI cZ y_MF_file b_MF_file 4 (some .int) 3 62 0 0 h [.ref (base + l0), .int l1, .int l2, .int l3] h (some (.int r)) :=
  ct_of (by decide) (Nat.le_of_ble_eq_true rfl) (fun p e s m below meth c ls C hS hl => t_MF_file C hM _ _ _ hS hl)
theorem d_MF_copy_0 : decode b_MF_copy 0 = .ok (.iload_n 1, 1) := by decide +kernel
theorem d_MF_copy_1 : decode b_MF_copy 1 = .ok (.invokestatic 109, 3) := by decide +kernel
theorem d_MF_copy_4 : decode b_MF_copy 4 = .ok (.ifCond .ne 5, 3) := by decide +kernel
theorem d_MF_copy_7 : decode b_MF_copy 7 = .ok (.iconst (-1), 1) := by decide +kernel
theorem d_MF_copy_8 : decode b_MF_copy 8 = .ok (.ireturn, 1) := by decide +kernel
theorem d_MF_copy_9 : decode b_MF_copy 9 = .ok (.aload_n 0, 1) := by decide +kernel
theorem d_MF_copy_10 : decode b_MF_copy 10 = .ok (.iload_n 1, 1) := by decide +kernel
theorem d_MF_copy_11 : decode b_MF_copy 11 = .ok (.invokevirtual 78, 3) := by decide +kernel
theorem d_MF_copy_14 : decode b_MF_copy 14 = .ok (.aload_n 0, 1) := by decide +kernel
theorem d_MF_copy_15 : decode b_MF_copy 15 = .ok (.getfield 19, 3) := by decide +kernel
theorem d_MF_copy_18 : decode b_MF_copy 18 = .ok (.getfield 112, 3) := by decide +kernel
theorem d_MF_copy_21 : decode b_MF_copy 21 = .ok (.invokevirtual 116, 3) := by decide +kernel
theorem d_MF_copy_24 : decode b_MF_copy 24 = .ok (.aload_n 0, 1) := by decide +kernel
theorem d_MF_copy_25 : decode b_MF_copy 25 = .ok (.iconst 0, 1) := by decide +kernel
theorem d_MF_copy_26 : decode b_MF_copy 26 = .ok (.putfield 57, 3) := by decide +kernel
theorem d_MF_copy_29 : decode b_MF_copy 29 = .ok (.aload_n 0, 1) := by decide +kernel
theorem d_MF_copy_30 : decode b_MF_copy 30 = .ok (.iload_n 1, 1) := by decide +kernel
theorem d_MF_copy_31 : decode b_MF_copy 31 = .ok (.invokevirtual 78, 3) := by decide +kernel
theorem d_MF_copy_34 : decode b_MF_copy 34 = .ok (.invokevirtual 94, 3) := by decide +kernel
theorem d_MF_copy_37 : decode b_MF_copy 37 = .ok (.ireturn, 1) := by decide +kernel
def f_MF_copy (h : Hp) (l0 : Nat) (l1 : Int32) : Option (Int32 × Hp) :=
  ck h 8 l0 (
    (f_MF_isSide l1).bind fun t1 =>
    if t1 = (0 : Int32) then (
      some ((-1 : Int32), h)
    ) else (
      (f_MF_treeOf h l0 l1).bind fun t2 =>
      (gR h 8 l0 1).bind fun t3 =>
      (gR h 0 t3 0).bind fun t4 =>
      (f_Tree_take h t2 t4).bind fun h5 =>
      (sI h5 8 l0 9 (0 : Int32)).bind fun h6 =>
      (f_MF_treeOf h6 l0 l1).bind fun t7 =>
      (f_Tree_size h6 t7).bind fun t8 =>
      some (t8, h6)
    )
  )
theorem o_MF_copy {h : Hp} {l0 : Nat} {l1 : Int32} {r : (Int32 × Hp)} (hM : f_MF_copy h l0 l1 = some r) : isO h 8 l0 = true := by
  unfold f_MF_copy at hM
  exact (ck_some hM).1
set_option maxHeartbeats 4000000 in
set_option maxRecDepth 100000 in
theorem t_MF_copy {h : Hp} {l0 : Nat} {l1 : Int32} {r : (Int32 × Hp)} (C : Cx base D cI cZ b_MF_copy 2 "MovedFolders" "copy" (some .int) p s m args meth c) (hM : f_MF_copy h l0 l1 = some r) (H : Heap) (locs : List Loc) (ls : Array Slot) (hS : RS base D cI cZ s H locs h) (hl : lv_has ls 2 [(0, .ref (base + l0)), (1, .int l1)]) : Wg l base D cI cZ 1 22 0 0 r.2 (some (.int r.1)) p e s m args below meth c H locs 0 0 (F0 m 0 ls []) := by
  have hx := C.1
  have hb := C.2.1
  unfold f_MF_copy at hM
  replace hM := (ck_some hM).2
  refine lv_iload_n hx hb d_MF_copy_0 rfl (lv_at hl 1 rfl) ?_
  obtain ⟨t1, et1, hM⟩ := bS hM
  refine r_callSi (x := t1) C hS cs_MF_109 (c_MF_isSide l base D cI cZ h l1 et1) (rest := []) rfl hl.1 rfl (Nat.le_of_ble_eq_true rfl) ⟨(Nat.le_of_ble_eq_true rfl), (Nat.le_of_ble_eq_true rfl)⟩ ⟨(Nat.le_of_ble_eq_true rfl), (Nat.le_of_ble_eq_true rfl)⟩ d_MF_copy_1 (fun H locs hS => ?_)
  refine lv_if_ne (tgt := 9) hx hb d_MF_copy_4 (by decide) (fun c4_1 => ?_) (fun c4_1 => ?_)
  · rw [if_neg c4_1] at hM
    refine lv_aload_n hx hb d_MF_copy_9 rfl (lv_at hl 0 rfl) ?_
    refine lv_iload_n hx hb d_MF_copy_10 rfl (lv_at hl 1 rfl) ?_
    obtain ⟨t2, et2, hM⟩ := bS hM
    refine r_callVr (x := t2) C hS cv_MF_78 (c_MF_treeOf l base D cI cZ h l0 l1 et2) (o_MF_treeOf et2) (rest := []) rfl hl.1 rfl (Nat.le_of_ble_eq_true rfl) ⟨(Nat.le_of_ble_eq_true rfl), (Nat.le_of_ble_eq_true rfl)⟩ ⟨(Nat.le_of_ble_eq_true rfl), (Nat.le_of_ble_eq_true rfl)⟩ d_MF_copy_11 (fun H locs hS => ?_)
    refine lv_aload_n hx hb d_MF_copy_14 rfl (lv_at hl 0 rfl) ?_
    obtain ⟨t3, et3, hM⟩ := bS hM
    refine r_getR C hS fl_MF_19 et3 d_MF_copy_15 ?_
    obtain ⟨t4, et4, hM⟩ := bS hM
    refine r_getR C hS fl_MF_112 et4 d_MF_copy_18 ?_
    obtain ⟨h5, eh5, hM⟩ := bS hM
    refine r_callVv C hS cv_MF_116 (c_Tree_take l base D cI cZ h t2 t4 eh5) (o_Tree_take eh5) (rest := []) rfl hl.1 rfl (Nat.le_of_ble_eq_true rfl) ⟨(Nat.le_of_ble_eq_true rfl), (Nat.le_of_ble_eq_true rfl)⟩ ⟨(Nat.le_of_ble_eq_true rfl), (Nat.le_of_ble_eq_true rfl)⟩ d_MF_copy_21 (fun H locs hS => ?_)
    refine lv_aload_n hx hb d_MF_copy_24 rfl (lv_at hl 0 rfl) ?_
    refine lv_iconst (v := (0 : Int32)) hx hb d_MF_copy_25 (by decide) ?_
    obtain ⟨h6, eh6, hM⟩ := bS hM
    refine r_putZ C hS fp_MF_57 eh6 rfl rfl d_MF_copy_26 (fun H locs hS => ?_)
    refine lv_aload_n hx hb d_MF_copy_29 rfl (lv_at hl 0 rfl) ?_
    refine lv_iload_n hx hb d_MF_copy_30 rfl (lv_at hl 1 rfl) ?_
    obtain ⟨t7, et7, hM⟩ := bS hM
    refine r_callVr (x := t7) C hS cv_MF_78 (c_MF_treeOf l base D cI cZ h6 l0 l1 et7) (o_MF_treeOf et7) (rest := []) rfl hl.1 rfl (Nat.le_of_ble_eq_true rfl) ⟨(Nat.le_of_ble_eq_true rfl), (Nat.le_of_ble_eq_true rfl)⟩ ⟨(Nat.le_of_ble_eq_true rfl), (Nat.le_of_ble_eq_true rfl)⟩ d_MF_copy_31 (fun H locs hS => ?_)
    obtain ⟨t8, et8, hM⟩ := bS hM
    refine r_callVi (x := t8) C hS cv_MF_94 (c_Tree_size l base D cI cZ h6 t7 et8) (o_Tree_size et8) (rest := []) rfl hl.1 rfl (Nat.le_of_ble_eq_true rfl) ⟨(Nat.le_of_ble_eq_true rfl), (Nat.le_of_ble_eq_true rfl)⟩ ⟨(Nat.le_of_ble_eq_true rfl), (Nat.le_of_ble_eq_true rfl)⟩ d_MF_copy_34 (fun H locs hS => ?_)
    obtain rfl := Option.some.inj hM
    exact r_iret C hS d_MF_copy_37
  · rw [if_pos c4_1] at hM
    refine lv_iconst (v := (-1 : Int32)) hx hb d_MF_copy_7 (by decide) ?_
    obtain rfl := Option.some.inj hM
    exact r_iret C hS d_MF_copy_8
theorem c_MF_copy (l : Launch) (base : Nat) (D : va_G) (cI cZ : ClassId) (h : Hp) (l0 : Nat) (l1 : Int32) {r : (Int32 × Hp)} (hM : f_MF_copy h l0 l1 = some r) : Ct l base D cI cZ y_MF_copy b_MF_copy 2 (some .int) 1 22 0 0 h [.ref (base + l0), .int l1] r.2 (some (.int r.1)) :=
  ct_of (by decide) (Nat.le_of_ble_eq_true rfl) (fun p e s m below meth c ls C hS hl => t_MF_copy C hM _ _ _ hS hl)
theorem d_MF_limit_0 : decode b_MF_limit 0 = .ok (.iload_n 1, 1) := by decide +kernel
theorem d_MF_limit_1 : decode b_MF_limit 1 = .ok (.iconst 1, 1) := by decide +kernel
theorem d_MF_limit_2 : decode b_MF_limit 2 = .ok (.if_icmp .lt 9, 3) := by decide +kernel
theorem d_MF_limit_5 : decode b_MF_limit 5 = .ok (.iload_n 1, 1) := by decide +kernel
theorem d_MF_limit_6 : decode b_MF_limit 6 = .ok (.bipush 100, 2) := by decide +kernel
theorem d_MF_limit_8 : decode b_MF_limit 8 = .ok (.if_icmp .le 6, 3) := by decide +kernel
theorem d_MF_limit_11 : decode b_MF_limit 11 = .ok (.bipush (-2), 2) := by decide +kernel
theorem d_MF_limit_13 : decode b_MF_limit 13 = .ok (.ireturn, 1) := by decide +kernel
theorem d_MF_limit_14 : decode b_MF_limit 14 = .ok (.aload_n 0, 1) := by decide +kernel
theorem d_MF_limit_15 : decode b_MF_limit 15 = .ok (.getfield 19, 3) := by decide +kernel
theorem d_MF_limit_18 : decode b_MF_limit 18 = .ok (.getfield 120, 3) := by decide +kernel
theorem d_MF_limit_21 : decode b_MF_limit 21 = .ok (.istore_n 2, 1) := by decide +kernel
theorem d_MF_limit_22 : decode b_MF_limit 22 = .ok (.aload_n 0, 1) := by decide +kernel
theorem d_MF_limit_23 : decode b_MF_limit 23 = .ok (.getfield 19, 3) := by decide +kernel
theorem d_MF_limit_26 : decode b_MF_limit 26 = .ok (.iload_n 1, 1) := by decide +kernel
theorem d_MF_limit_27 : decode b_MF_limit 27 = .ok (.putfield 120, 3) := by decide +kernel
theorem d_MF_limit_30 : decode b_MF_limit 30 = .ok (.aload_n 0, 1) := by decide +kernel
theorem d_MF_limit_31 : decode b_MF_limit 31 = .ok (.iconst 0, 1) := by decide +kernel
theorem d_MF_limit_32 : decode b_MF_limit 32 = .ok (.putfield 57, 3) := by decide +kernel
theorem d_MF_limit_35 : decode b_MF_limit 35 = .ok (.iload_n 2, 1) := by decide +kernel
theorem d_MF_limit_36 : decode b_MF_limit 36 = .ok (.ireturn, 1) := by decide +kernel
def f_MF_limit (h : Hp) (l0 : Nat) (l1 : Int32) : Option (Int32 × Hp) :=
  ck h 8 l0 (
    if l1 < (1 : Int32) then (
      some ((-2 : Int32), h)
    ) else (
      if l1 ≤ (100 : Int32) then (
        (gR h 8 l0 1).bind fun t1 =>
        (gI h 0 t1 3).bind fun t2 =>
        (gR h 8 l0 1).bind fun t3 =>
        (sI h 0 t3 3 l1).bind fun h4 =>
        (sI h4 8 l0 9 (0 : Int32)).bind fun h5 =>
        some (t2, h5)
      ) else (
        some ((-2 : Int32), h)
      )
    )
  )
theorem o_MF_limit {h : Hp} {l0 : Nat} {l1 : Int32} {r : (Int32 × Hp)} (hM : f_MF_limit h l0 l1 = some r) : isO h 8 l0 = true := by
  unfold f_MF_limit at hM
  exact (ck_some hM).1
set_option maxHeartbeats 4000000 in
set_option maxRecDepth 100000 in
theorem t_MF_limit {h : Hp} {l0 : Nat} {l1 : Int32} {r : (Int32 × Hp)} (C : Cx base D cI cZ b_MF_limit 3 "MovedFolders" "limit" (some .int) p s m args meth c) (hM : f_MF_limit h l0 l1 = some r) (H : Heap) (locs : List Loc) (ls : Array Slot) (hS : RS base D cI cZ s H locs h) (hl : lv_has ls 3 [(0, .ref (base + l0)), (1, .int l1)]) : Wg l base D cI cZ 0 0 0 0 r.2 (some (.int r.1)) p e s m args below meth c H locs 0 0 (F0 m 0 ls []) := by
  have hx := C.1
  have hb := C.2.1
  unfold f_MF_limit at hM
  replace hM := (ck_some hM).2
  refine lv_iload_n hx hb d_MF_limit_0 rfl (lv_at hl 1 rfl) ?_
  refine lv_iconst (v := (1 : Int32)) hx hb d_MF_limit_1 (by decide) ?_
  refine lv_icmp_lt (tgt := 11) hx hb d_MF_limit_2 (by decide) (fun c2_1 => ?_) (fun c2_1 => ?_)
  · rw [if_pos c2_1] at hM
    refine lv_bipush (v := (-2 : Int32)) hx hb d_MF_limit_11 (by decide) ?_
    obtain rfl := Option.some.inj hM
    exact r_iret C hS d_MF_limit_13
  · rw [if_neg c2_1] at hM
    refine lv_iload_n hx hb d_MF_limit_5 rfl (lv_at hl 1 rfl) ?_
    refine lv_bipush (v := (100 : Int32)) hx hb d_MF_limit_6 (by decide) ?_
    refine lv_icmp_le (tgt := 14) hx hb d_MF_limit_8 (by decide) (fun c8_2 => ?_) (fun c8_2 => ?_)
    · rw [if_pos c8_2] at hM
      refine lv_aload_n hx hb d_MF_limit_14 rfl (lv_at hl 0 rfl) ?_
      obtain ⟨t1, et1, hM⟩ := bS hM
      refine r_getR C hS fl_MF_19 et1 d_MF_limit_15 ?_
      obtain ⟨t2, et2, hM⟩ := bS hM
      refine r_getI C hS fl_MF_120 et2 d_MF_limit_18 ?_
      refine lv_istore_n (lv' := [(2, .int t2), (0, .ref (base + l0)), (1, .int l1)]) hx hb d_MF_limit_21 rfl hl (by decide) rfl (fun ls hl => ?_)
      refine lv_aload_n hx hb d_MF_limit_22 rfl (lv_at hl 1 rfl) ?_
      obtain ⟨t3, et3, hM⟩ := bS hM
      refine r_getR C hS fl_MF_19 et3 d_MF_limit_23 ?_
      refine lv_iload_n hx hb d_MF_limit_26 rfl (lv_at hl 2 rfl) ?_
      obtain ⟨h4, eh4, hM⟩ := bS hM
      refine r_putI C hS fp_MF_120 eh4 d_MF_limit_27 (fun H locs hS => ?_)
      refine lv_aload_n hx hb d_MF_limit_30 rfl (lv_at hl 1 rfl) ?_
      refine lv_iconst (v := (0 : Int32)) hx hb d_MF_limit_31 (by decide) ?_
      obtain ⟨h5, eh5, hM⟩ := bS hM
      refine r_putZ C hS fp_MF_57 eh5 rfl rfl d_MF_limit_32 (fun H locs hS => ?_)
      refine lv_iload_n hx hb d_MF_limit_35 rfl (lv_at hl 0 rfl) ?_
      obtain rfl := Option.some.inj hM
      exact r_iret C hS d_MF_limit_36
    · rw [if_neg c8_2] at hM
      refine lv_bipush (v := (-2 : Int32)) hx hb d_MF_limit_11 (by decide) ?_
      obtain rfl := Option.some.inj hM
      exact r_iret C hS d_MF_limit_13
theorem c_MF_limit (l : Launch) (base : Nat) (D : va_G) (cI cZ : ClassId) (h : Hp) (l0 : Nat) (l1 : Int32) {r : (Int32 × Hp)} (hM : f_MF_limit h l0 l1 = some r) : Ct l base D cI cZ y_MF_limit b_MF_limit 3 (some .int) 0 0 0 0 h [.ref (base + l0), .int l1] r.2 (some (.int r.1)) :=
  ct_of (by decide) (Nat.le_of_ble_eq_true rfl) (fun p e s m below meth c ls C hS hl => t_MF_limit C hM _ _ _ hS hl)
end MM4
