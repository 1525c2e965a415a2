section MM7
variable {l : Launch} {base : Nat} {D : va_G} {cI cZ : ClassId} {p : Program} {e : Env} {s : State} {m : MethodId} {args : Array Value} {below : List Frame} {meth : Method} {c : Code}
theorem d_Mo_file_0 : decode b_Mo_file 0 = .ok (.aload_n 0, 1) := by decide +kernel
theorem d_Mo_file_1 : decode b_Mo_file 1 = .ok (.iload_n 1, 1) := by decide +kernel
theorem d_Mo_file_2 : decode b_Mo_file 2 = .ok (.iload_n 2, 1) := by decide +kernel
theorem d_Mo_file_3 : decode b_Mo_file 3 = .ok (.invokevirtual 128, 3) := by decide +kernel
theorem d_Mo_file_6 : decode b_Mo_file 6 = .ok (.ifCond .ne 5, 3) := by decide +kernel
theorem d_Mo_file_9 : decode b_Mo_file 9 = .ok (.iconst (-1), 1) := by decide +kernel
theorem d_Mo_file_10 : decode b_Mo_file 10 = .ok (.ireturn, 1) := by decide +kernel
theorem d_Mo_file_11 : decode b_Mo_file 11 = .ok (.iload_n 3, 1) := by decide +kernel
theorem d_Mo_file_12 : decode b_Mo_file 12 = .ok (.ifCond .ne 17, 3) := by decide +kernel
theorem d_Mo_file_15 : decode b_Mo_file 15 = .ok (.aload_n 0, 1) := by decide +kernel
theorem d_Mo_file_16 : decode b_Mo_file 16 = .ok (.getfield 7, 3) := by decide +kernel
theorem d_Mo_file_19 : decode b_Mo_file 19 = .ok (.bipush 12, 2) := by decide +kernel
theorem d_Mo_file_21 : decode b_Mo_file 21 = .ok (.iload_n 1, 1) := by decide +kernel
theorem d_Mo_file_22 : decode b_Mo_file 22 = .ok (.imul, 1) := by decide +kernel
theorem d_Mo_file_23 : decode b_Mo_file 23 = .ok (.iload_n 2, 1) := by decide +kernel
theorem d_Mo_file_24 : decode b_Mo_file 24 = .ok (.iadd, 1) := by decide +kernel
theorem d_Mo_file_25 : decode b_Mo_file 25 = .ok (.iaload, 1) := by decide +kernel
theorem d_Mo_file_26 : decode b_Mo_file 26 = .ok (.goto 19, 3) := by decide +kernel
theorem d_Mo_file_29 : decode b_Mo_file 29 = .ok (.iload_n 3, 1) := by decide +kernel
theorem d_Mo_file_30 : decode b_Mo_file 30 = .ok (.iconst 1, 1) := by decide +kernel
theorem d_Mo_file_31 : decode b_Mo_file 31 = .ok (.if_icmp .ne 12, 3) := by decide +kernel
theorem d_Mo_file_34 : decode b_Mo_file 34 = .ok (.aload_n 0, 1) := by decide +kernel
theorem d_Mo_file_35 : decode b_Mo_file 35 = .ok (.iload_n 1, 1) := by decide +kernel
theorem d_Mo_file_36 : decode b_Mo_file 36 = .ok (.iload_n 2, 1) := by decide +kernel
theorem d_Mo_file_37 : decode b_Mo_file 37 = .ok (.invokevirtual 132, 3) := by decide +kernel
theorem d_Mo_file_40 : decode b_Mo_file 40 = .ok (.goto 5, 3) := by decide +kernel
theorem d_Mo_file_43 : decode b_Mo_file 43 = .ok (.bipush (-2), 2) := by decide +kernel
theorem d_Mo_file_45 : decode b_Mo_file 45 = .ok (.ireturn, 1) := by decide +kernel
def f_Mo_file (h : Hp) (l0 : Nat) (l1 : Int32) (l2 : Int32) (l3 : Int32) : Option Int32 :=
  ck h 9 l0 (
    (f_Mo_isFile h l0 l1 l2).bind fun t1 =>
    if t1 = (0 : Int32) then (
      some (-1 : Int32)
    ) else (
      (
        if l3 = (0 : Int32) then (
          (gR h 9 l0 0).bind fun t4 =>
          (gA h false t4 (((12 : Int32) * l1) + l2)).bind fun t5 =>
          some t5
        ) else (
          if l3 = (1 : Int32) then (
            (f_Mo_contentAt h l0 l1 l2).bind fun t3 =>
            some t3
          ) else (
            some (-2 : Int32)
          )
        )
      ).bind fun t2 =>
      some t2
    )
  )
theorem o_Mo_file {h : Hp} {l0 : Nat} {l1 : Int32} {l2 : Int32} {l3 : Int32} {r : Int32} (hM : f_Mo_file h l0 l1 l2 l3 = some r) : isO h 9 l0 = true := by
  unfold f_Mo_file at hM
  exact (ck_some hM).1
set_option maxHeartbeats 4000000 in
set_option maxRecDepth 100000 in
theorem t_Mo_file {h : Hp} {l0 : Nat} {l1 : Int32} {l2 : Int32} {l3 : Int32} {r : Int32} (C : Cx base D cI cZ b_Mo_file 4 "MovedFoldersModel" "file" (some .int) p s m args meth c) (hM : f_Mo_file h l0 l1 l2 l3 = some r) (H : Heap) (locs : List Loc) (ls : Array Slot) (hS : RS base D cI cZ s H locs h) (hl : lv_has ls 4 [(0, .ref (base + l0)), (1, .int l1), (2, .int l2), (3, .int l3)]) : Wg l base D cI cZ 3 67 0 0 h (some (.int r)) p e s m args below meth c H locs 0 0 (F0 m 0 ls []) := by
  have hx := C.1
  have hb := C.2.1
  unfold f_Mo_file at hM
  replace hM := (ck_some hM).2
  refine lv_aload_n hx hb d_Mo_file_0 rfl (lv_at hl 0 rfl) ?_
  refine lv_iload_n hx hb d_Mo_file_1 rfl (lv_at hl 1 rfl) ?_
  refine lv_iload_n hx hb d_Mo_file_2 rfl (lv_at hl 2 rfl) ?_
  obtain ⟨t1, et1, hM⟩ := bS hM
  refine r_callVi (x := t1) C hS cv_Mo_128 (c_Mo_isFile l base D cI cZ h l0 l1 l2 et1) (o_Mo_isFile et1) (rest := []) rfl hl.1 rfl (Nat.le_of_ble_eq_true rfl) ⟨(Nat.le_of_ble_eq_true rfl), (Nat.le_of_ble_eq_true rfl)⟩ ⟨(Nat.le_of_ble_eq_true rfl), (Nat.le_of_ble_eq_true rfl)⟩ d_Mo_file_3 (fun H locs hS => ?_)
  refine lv_if_ne (tgt := 11) hx hb d_Mo_file_6 (by decide) (fun c6_1 => ?_) (fun c6_1 => ?_)
  · rw [if_neg c6_1] at hM
    refine lv_iload_n hx hb d_Mo_file_11 rfl (lv_at hl 3 rfl) ?_
    obtain ⟨t2, et2, hM⟩ := bS hM
    have kJ45_2 : ∀ (H : Heap) (locs : List Loc) (ls : Array Slot), RS base D cI cZ s H locs h → lv_has ls 4 [] → Wg l base D cI cZ 3 67 0 0 h (some (.int r)) p e s m args below meth c H locs 0 0 (F0 m 45 ls [.int t2]) := by
      intro H locs ls hS hl
      obtain rfl := Option.some.inj hM
      exact r_iret C hS d_Mo_file_45
    refine lv_if_ne (tgt := 29) hx hb d_Mo_file_12 (by decide) (fun c12_3 => ?_) (fun c12_3 => ?_)
    · rw [if_neg c12_3] at et2
      refine lv_iload_n hx hb d_Mo_file_29 rfl (lv_at hl 3 rfl) ?_
      refine lv_iconst (v := (1 : Int32)) hx hb d_Mo_file_30 (by decide) ?_
      refine lv_icmp_ne (tgt := 43) hx hb d_Mo_file_31 (by decide) (fun c31_4 => ?_) (fun c31_4 => ?_)
      · rw [if_neg c31_4] at et2
        refine lv_bipush (v := (-2 : Int32)) hx hb d_Mo_file_43 (by decide) ?_
        obtain rfl := Option.some.inj et2
        exact kJ45_2 _ _ _ hS (lv_sub hl [] rfl)
      · rw [if_pos c31_4] at et2
        refine lv_aload_n hx hb d_Mo_file_34 rfl (lv_at hl 0 rfl) ?_
        refine lv_iload_n hx hb d_Mo_file_35 rfl (lv_at hl 1 rfl) ?_
        refine lv_iload_n hx hb d_Mo_file_36 rfl (lv_at hl 2 rfl) ?_
        obtain ⟨t3, et3, et2⟩ := bS et2
        refine r_callVi (x := t3) C hS cv_Mo_132 (c_Mo_contentAt l base D cI cZ h l0 l1 l2 et3) (o_Mo_contentAt et3) (rest := []) rfl hl.1 rfl (Nat.le_of_ble_eq_true rfl) ⟨(Nat.le_of_ble_eq_true rfl), (Nat.le_of_ble_eq_true rfl)⟩ ⟨(Nat.le_of_ble_eq_true rfl), (Nat.le_of_ble_eq_true rfl)⟩ d_Mo_file_37 (fun H locs hS => ?_)
        refine lv_goto (tgt := 45) hx hb d_Mo_file_40 (by decide) ?_
        obtain rfl := Option.some.inj et2
        exact kJ45_2 _ _ _ hS (lv_sub hl [] rfl)
    · rw [if_pos c12_3] at et2
      refine lv_aload_n hx hb d_Mo_file_15 rfl (lv_at hl 0 rfl) ?_
      obtain ⟨t4, et4, et2⟩ := bS et2
      refine r_getR C hS fl_Mo_7 et4 d_Mo_file_16 ?_
      refine lv_bipush (v := (12 : Int32)) hx hb d_Mo_file_19 (by decide) ?_
      refine lv_iload_n hx hb d_Mo_file_21 rfl (lv_at hl 1 rfl) ?_
      refine lv_imul hx hb d_Mo_file_22 ?_
      refine lv_iload_n hx hb d_Mo_file_23 rfl (lv_at hl 2 rfl) ?_
      refine lv_iadd hx hb d_Mo_file_24 ?_
      obtain ⟨t5, et5, et2⟩ := bS et2
      refine r_iald C hS et5 d_Mo_file_25 ?_
      refine lv_goto (tgt := 45) hx hb d_Mo_file_26 (by decide) ?_
      obtain rfl := Option.some.inj et2
      exact kJ45_2 _ _ _ hS (lv_sub hl [] rfl)
  · rw [if_pos c6_1] at hM
    refine lv_iconst (v := (-1 : Int32)) hx hb d_Mo_file_9 (by decide) ?_
    obtain rfl := Option.some.inj hM
    exact r_iret C hS d_Mo_file_10
theorem c_Mo_file (l : Launch) (base : Nat) (D : va_G) (cI cZ : ClassId) (h : Hp) (l0 : Nat) (l1 : Int32) (l2 : Int32) (l3 : Int32) {r : Int32} (hM : f_Mo_file h l0 l1 l2 l3 = some r) : Ct l base D cI cZ y_Mo_file b_Mo_file 4 (some .int) 3 67 0 0 h [.ref (base + l0), .int l1, .int l2, .int l3] h (some (.int r)) :=
  ct_of (by decide) (Nat.le_of_ble_eq_true rfl) (fun p e s m below meth c ls C hS hl => t_Mo_file C hM _ _ _ hS hl)
theorem d_Mo_copy_0 : decode b_Mo_copy 0 = .ok (.iload_n 1, 1) := by decide +kernel
theorem d_Mo_copy_1 : decode b_Mo_copy 1 = .ok (.invokestatic 135, 3) := by decide +kernel
theorem d_Mo_copy_4 : decode b_Mo_copy 4 = .ok (.ifCond .ne 5, 3) := by decide +kernel
theorem d_Mo_copy_7 : decode b_Mo_copy 7 = .ok (.iconst (-1), 1) := by decide +kernel
theorem d_Mo_copy_8 : decode b_Mo_copy 8 = .ok (.ireturn, 1) := by decide +kernel
theorem d_Mo_copy_9 : decode b_Mo_copy 9 = .ok (.aload_n 0, 1) := by decide +kernel
theorem d_Mo_copy_10 : decode b_Mo_copy 10 = .ok (.getfield 16, 3) := by decide +kernel
theorem d_Mo_copy_13 : decode b_Mo_copy 13 = .ok (.iload_n 1, 1) := by decide +kernel
theorem d_Mo_copy_14 : decode b_Mo_copy 14 = .ok (.aload_n 0, 1) := by decide +kernel
theorem d_Mo_copy_15 : decode b_Mo_copy 15 = .ok (.getfield 16, 3) := by decide +kernel
theorem d_Mo_copy_18 : decode b_Mo_copy 18 = .ok (.iconst 0, 1) := by decide +kernel
theorem d_Mo_copy_19 : decode b_Mo_copy 19 = .ok (.iaload, 1) := by decide +kernel
theorem d_Mo_copy_20 : decode b_Mo_copy 20 = .ok (.iastore, 1) := by decide +kernel
theorem d_Mo_copy_21 : decode b_Mo_copy 21 = .ok (.iconst 0, 1) := by decide +kernel
theorem d_Mo_copy_22 : decode b_Mo_copy 22 = .ok (.istore_n 2, 1) := by decide +kernel
theorem d_Mo_copy_23 : decode b_Mo_copy 23 = .ok (.iload_n 2, 1) := by decide +kernel
theorem d_Mo_copy_24 : decode b_Mo_copy 24 = .ok (.aload_n 0, 1) := by decide +kernel
theorem d_Mo_copy_25 : decode b_Mo_copy 25 = .ok (.getfield 16, 3) := by decide +kernel
theorem d_Mo_copy_28 : decode b_Mo_copy 28 = .ok (.iconst 0, 1) := by decide +kernel
theorem d_Mo_copy_29 : decode b_Mo_copy 29 = .ok (.iaload, 1) := by decide +kernel
theorem d_Mo_copy_30 : decode b_Mo_copy 30 = .ok (.if_icmp .ge 43, 3) := by decide +kernel
theorem d_Mo_copy_33 : decode b_Mo_copy 33 = .ok (.aload_n 0, 1) := by decide +kernel
theorem d_Mo_copy_34 : decode b_Mo_copy 34 = .ok (.getfield 7, 3) := by decide +kernel
theorem d_Mo_copy_37 : decode b_Mo_copy 37 = .ok (.bipush 12, 2) := by decide +kernel
theorem d_Mo_copy_39 : decode b_Mo_copy 39 = .ok (.iload_n 1, 1) := by decide +kernel
theorem d_Mo_copy_40 : decode b_Mo_copy 40 = .ok (.imul, 1) := by decide +kernel
theorem d_Mo_copy_41 : decode b_Mo_copy 41 = .ok (.iload_n 2, 1) := by decide +kernel
theorem d_Mo_copy_42 : decode b_Mo_copy 42 = .ok (.iadd, 1) := by decide +kernel
theorem d_Mo_copy_43 : decode b_Mo_copy 43 = .ok (.aload_n 0, 1) := by decide +kernel
theorem d_Mo_copy_44 : decode b_Mo_copy 44 = .ok (.getfield 7, 3) := by decide +kernel
theorem d_Mo_copy_47 : decode b_Mo_copy 47 = .ok (.iload_n 2, 1) := by decide +kernel
theorem d_Mo_copy_48 : decode b_Mo_copy 48 = .ok (.iaload, 1) := by decide +kernel
theorem d_Mo_copy_49 : decode b_Mo_copy 49 = .ok (.iastore, 1) := by decide +kernel
theorem d_Mo_copy_50 : decode b_Mo_copy 50 = .ok (.aload_n 0, 1) := by decide +kernel
theorem d_Mo_copy_51 : decode b_Mo_copy 51 = .ok (.getfield 13, 3) := by decide +kernel
theorem d_Mo_copy_54 : decode b_Mo_copy 54 = .ok (.bipush 12, 2) := by decide +kernel
theorem d_Mo_copy_56 : decode b_Mo_copy 56 = .ok (.iload_n 1, 1) := by decide +kernel
theorem d_Mo_copy_57 : decode b_Mo_copy 57 = .ok (.imul, 1) := by decide +kernel
theorem d_Mo_copy_58 : decode b_Mo_copy 58 = .ok (.iload_n 2, 1) := by decide +kernel
theorem d_Mo_copy_59 : decode b_Mo_copy 59 = .ok (.iadd, 1) := by decide +kernel
theorem d_Mo_copy_60 : decode b_Mo_copy 60 = .ok (.aload_n 0, 1) := by decide +kernel
theorem d_Mo_copy_61 : decode b_Mo_copy 61 = .ok (.getfield 13, 3) := by decide +kernel
theorem d_Mo_copy_64 : decode b_Mo_copy 64 = .ok (.iload_n 2, 1) := by decide +kernel
theorem d_Mo_copy_65 : decode b_Mo_copy 65 = .ok (.iaload, 1) := by decide +kernel
theorem d_Mo_copy_66 : decode b_Mo_copy 66 = .ok (.iastore, 1) := by decide +kernel
theorem d_Mo_copy_67 : decode b_Mo_copy 67 = .ok (.iinc 2 1, 3) := by decide +kernel
theorem d_Mo_copy_70 : decode b_Mo_copy 70 = .ok (.goto (-47), 3) := by decide +kernel
theorem d_Mo_copy_73 : decode b_Mo_copy 73 = .ok (.aload_n 0, 1) := by decide +kernel
theorem d_Mo_copy_74 : decode b_Mo_copy 74 = .ok (.getfield 16, 3) := by decide +kernel
theorem d_Mo_copy_77 : decode b_Mo_copy 77 = .ok (.iconst 0, 1) := by decide +kernel
theorem d_Mo_copy_78 : decode b_Mo_copy 78 = .ok (.iaload, 1) := by decide +kernel
theorem d_Mo_copy_79 : decode b_Mo_copy 79 = .ok (.ireturn, 1) := by decide +kernel
def f_Mo_copy_23 (l0 : Nat) (l1 : Int32) : Nat → Int32 → Hp → Option (Int32 × Hp)
  | 0, _, _ => none
  | n + 1, l2, h =>
    (gR h 9 l0 2).bind fun t6 =>
    (gA h false t6 (0 : Int32)).bind fun t7 =>
    if t7 ≤ l2 then (
      (gR h 9 l0 2).bind fun t8 =>
      (gA h false t8 (0 : Int32)).bind fun t9 =>
      some (t9, h)
    ) else (
      (gR h 9 l0 0).bind fun t10 =>
      (gR h 9 l0 0).bind fun t11 =>
      (gA h false t11 l2).bind fun t12 =>
      (sA h t10 (((12 : Int32) * l1) + l2) t12).bind fun h13 =>
      (gR h13 9 l0 1).bind fun t14 =>
      (gR h13 9 l0 1).bind fun t15 =>
      (gA h13 false t15 l2).bind fun t16 =>
      (sA h13 t14 (((12 : Int32) * l1) + l2) t16).bind fun h17 =>
      f_Mo_copy_23 l0 l1 n (l2 + (1 : Int32)) h17
    )
set_option maxHeartbeats 4000000 in
set_option maxRecDepth 100000 in
theorem t_Mo_copy_23 {l0 : Nat} {l1 : Int32} {r : (Int32 × Hp)} (C : Cx base D cI cZ b_Mo_copy 3 "MovedFoldersModel" "copy" (some .int) p s m args meth c)  : ∀ (n : Nat) (l2 : Int32) (h : Hp), f_Mo_copy_23 l0 l1 n l2 h = some r → ∀ (H : Heap) (locs : List Loc) (ls : Array Slot), RS base D cI cZ s H locs h → lv_has ls 3 [(0, .ref (base + l0)), (1, .int l1), (2, .int l2)] → Wg l base D cI cZ 2 45 0 0 r.2 (some (.int r.1)) p e s m args below meth c H locs 0 0 (F0 m 23 ls []) := by
  have hx := C.1
  have hb := C.2.1
  intro n
  induction n with
  | zero =>
    intro l2 h hM
    rw [f_Mo_copy_23] at hM
    cases hM
  | succ n ih =>
    intro l2 h hM H locs ls hS hl
    rw [f_Mo_copy_23] at hM
    refine lv_iload_n hx hb d_Mo_copy_23 rfl (lv_at hl 2 rfl) ?_
    refine lv_aload_n hx hb d_Mo_copy_24 rfl (lv_at hl 0 rfl) ?_
    obtain ⟨t6, et6, hM⟩ := bS hM
    refine r_getR C hS fl_Mo_16 et6 d_Mo_copy_25 ?_
    refine lv_iconst (v := (0 : Int32)) hx hb d_Mo_copy_28 (by decide) ?_
    obtain ⟨t7, et7, hM⟩ := bS hM
    refine r_iald C hS et7 d_Mo_copy_29 ?_
    refine lv_icmp_ge (tgt := 73) hx hb d_Mo_copy_30 (by decide) (fun c30_2 => ?_) (fun c30_2 => ?_)
    · rw [if_pos c30_2] at hM
      refine lv_aload_n hx hb d_Mo_copy_73 rfl (lv_at hl 0 rfl) ?_
      obtain ⟨t8, et8, hM⟩ := bS hM
      refine r_getR C hS fl_Mo_16 et8 d_Mo_copy_74 ?_
      refine lv_iconst (v := (0 : Int32)) hx hb d_Mo_copy_77 (by decide) ?_
      obtain ⟨t9, et9, hM⟩ := bS hM
      refine r_iald C hS et9 d_Mo_copy_78 ?_
      obtain rfl := Option.some.inj hM
      exact r_iret C hS d_Mo_copy_79
    · rw [if_neg c30_2] at hM
      refine lv_aload_n hx hb d_Mo_copy_33 rfl (lv_at hl 0 rfl) ?_
      obtain ⟨t10, et10, hM⟩ := bS hM
      refine r_getR C hS fl_Mo_7 et10 d_Mo_copy_34 ?_
      refine lv_bipush (v := (12 : Int32)) hx hb d_Mo_copy_37 (by decide) ?_
      refine lv_iload_n hx hb d_Mo_copy_39 rfl (lv_at hl 1 rfl) ?_
      refine lv_imul hx hb d_Mo_copy_40 ?_
      refine lv_iload_n hx hb d_Mo_copy_41 rfl (lv_at hl 2 rfl) ?_
      refine lv_iadd hx hb d_Mo_copy_42 ?_
      refine lv_aload_n hx hb d_Mo_copy_43 rfl (lv_at hl 0 rfl) ?_
      obtain ⟨t11, et11, hM⟩ := bS hM
      refine r_getR C hS fl_Mo_7 et11 d_Mo_copy_44 ?_
      refine lv_iload_n hx hb d_Mo_copy_47 rfl (lv_at hl 2 rfl) ?_
      obtain ⟨t12, et12, hM⟩ := bS hM
      refine r_iald C hS et12 d_Mo_copy_48 ?_
      obtain ⟨h13, eh13, hM⟩ := bS hM
      refine r_iast C hS eh13 d_Mo_copy_49 (fun H locs hS => ?_)
      refine lv_aload_n hx hb d_Mo_copy_50 rfl (lv_at hl 0 rfl) ?_
      obtain ⟨t14, et14, hM⟩ := bS hM
      refine r_getR C hS fl_Mo_13 et14 d_Mo_copy_51 ?_
      refine lv_bipush (v := (12 : Int32)) hx hb d_Mo_copy_54 (by decide) ?_
      refine lv_iload_n hx hb d_Mo_copy_56 rfl (lv_at hl 1 rfl) ?_
      refine lv_imul hx hb d_Mo_copy_57 ?_
      refine lv_iload_n hx hb d_Mo_copy_58 rfl (lv_at hl 2 rfl) ?_
      refine lv_iadd hx hb d_Mo_copy_59 ?_
      refine lv_aload_n hx hb d_Mo_copy_60 rfl (lv_at hl 0 rfl) ?_
      obtain ⟨t15, et15, hM⟩ := bS hM
      refine r_getR C hS fl_Mo_13 et15 d_Mo_copy_61 ?_
      refine lv_iload_n hx hb d_Mo_copy_64 rfl (lv_at hl 2 rfl) ?_
      obtain ⟨t16, et16, hM⟩ := bS hM
      refine r_iald C hS et16 d_Mo_copy_65 ?_
      obtain ⟨h17, eh17, hM⟩ := bS hM
      refine r_iast C hS eh17 d_Mo_copy_66 (fun H locs hS => ?_)
      refine lv_iinc (v := (l2 + (1 : Int32))) (lv' := [(2, .int (l2 + (1 : Int32))), (0, .ref (base + l0)), (1, .int l1)]) hx hb d_Mo_copy_67 hl (k := 2) rfl (by rw [oi_1]) (by decide) rfl (fun ls hl => ?_)
      refine lv_goto (tgt := 23) hx hb d_Mo_copy_70 (by decide) ?_
      exact ih (l2 + (1 : Int32)) h17 hM _ _ _ hS (lv_sub hl [1, 2, 0] rfl)
def f_Mo_copy (h : Hp) (l0 : Nat) (l1 : Int32) : Option (Int32 × Hp) :=
  ck h 9 l0 (
    (f_Mo_isSide l1).bind fun t1 =>
    if t1 = (0 : Int32) then (
      some ((-1 : Int32), h)
    ) else (
      (gR h 9 l0 2).bind fun t2 =>
      (gR h 9 l0 2).bind fun t3 =>
      (gA h false t3 (0 : Int32)).bind fun t4 =>
      (sA h t2 l1 t4).bind fun h5 =>
      f_Mo_copy_23 l0 l1 FU (0 : Int32) h5
    )
  )
theorem o_Mo_copy {h : Hp} {l0 : Nat} {l1 : Int32} {r : (Int32 × Hp)} (hM : f_Mo_copy h l0 l1 = some r) : isO h 9 l0 = true := by
  unfold f_Mo_copy at hM
  exact (ck_some hM).1
set_option maxHeartbeats 4000000 in
set_option maxRecDepth 100000 in
theorem t_Mo_copy {h : Hp} {l0 : Nat} {l1 : Int32} {r : (Int32 × Hp)} (C : Cx base D cI cZ b_Mo_copy 3 "MovedFoldersModel" "copy" (some .int) p s m args meth c) (hM : f_Mo_copy h l0 l1 = some r) (H : Heap) (locs : List Loc) (ls : Array Slot) (hS : RS base D cI cZ s H locs h) (hl : lv_has ls 3 [(0, .ref (base + l0)), (1, .int l1)]) : Wg l base D cI cZ 2 45 0 0 r.2 (some (.int r.1)) p e s m args below meth c H locs 0 0 (F0 m 0 ls []) := by
  have hx := C.1
  have hb := C.2.1
  unfold f_Mo_copy at hM
  replace hM := (ck_some hM).2
  refine lv_iload_n hx hb d_Mo_copy_0 rfl (lv_at hl 1 rfl) ?_
  obtain ⟨t1, et1, hM⟩ := bS hM
  refine r_callSi (x := t1) C hS cs_Mo_135 (c_Mo_isSide l base D cI cZ h l1 et1) (rest := []) rfl hl.1 rfl (Nat.le_of_ble_eq_true rfl) ⟨(Nat.le_of_ble_eq_true rfl), (Nat.le_of_ble_eq_true rfl)⟩ ⟨(Nat.le_of_ble_eq_true rfl), (Nat.le_of_ble_eq_true rfl)⟩ d_Mo_copy_1 (fun H locs hS => ?_)
  refine lv_if_ne (tgt := 9) hx hb d_Mo_copy_4 (by decide) (fun c4_1 => ?_) (fun c4_1 => ?_)
  · rw [if_neg c4_1] at hM
    refine lv_aload_n hx hb d_Mo_copy_9 rfl (lv_at hl 0 rfl) ?_
    obtain ⟨t2, et2, hM⟩ := bS hM
    refine r_getR C hS fl_Mo_16 et2 d_Mo_copy_10 ?_
    refine lv_iload_n hx hb d_Mo_copy_13 rfl (lv_at hl 1 rfl) ?_
    refine lv_aload_n hx hb d_Mo_copy_14 rfl (lv_at hl 0 rfl) ?_
    obtain ⟨t3, et3, hM⟩ := bS hM
    refine r_getR C hS fl_Mo_16 et3 d_Mo_copy_15 ?_
    refine lv_iconst (v := (0 : Int32)) hx hb d_Mo_copy_18 (by decide) ?_
    obtain ⟨t4, et4, hM⟩ := bS hM
    refine r_iald C hS et4 d_Mo_copy_19 ?_
    obtain ⟨h5, eh5, hM⟩ := bS hM
    refine r_iast C hS eh5 d_Mo_copy_20 (fun H locs hS => ?_)
    refine lv_iconst (v := (0 : Int32)) hx hb d_Mo_copy_21 (by decide) ?_
    refine lv_istore_n (lv' := [(2, .int (0 : Int32)), (0, .ref (base + l0)), (1, .int l1)]) hx hb d_Mo_copy_22 rfl hl (by decide) rfl (fun ls hl => ?_)
    exact t_Mo_copy_23  C  FU (0 : Int32) h5 hM _ _ _ hS (lv_sub hl [1, 2, 0] rfl)
  · rw [if_pos c4_1] at hM
    refine lv_iconst (v := (-1 : Int32)) hx hb d_Mo_copy_7 (by decide) ?_
    obtain rfl := Option.some.inj hM
    exact r_iret C hS d_Mo_copy_8
theorem c_Mo_copy (l : Launch) (base : Nat) (D : va_G) (cI cZ : ClassId) (h : Hp) (l0 : Nat) (l1 : Int32) {r : (Int32 × Hp)} (hM : f_Mo_copy h l0 l1 = some r) : Ct l base D cI cZ y_Mo_copy b_Mo_copy 3 (some .int) 2 45 0 0 h [.ref (base + l0), .int l1] r.2 (some (.int r.1)) :=
  ct_of (by decide) (Nat.le_of_ble_eq_true rfl) (fun p e s m below meth c ls C hS hl => t_Mo_copy C hM _ _ _ hS hl)
theorem d_Mo_piecesIn_0 : decode b_Mo_piecesIn 0 = .ok (.iconst 0, 1) := by decide +kernel
theorem d_Mo_piecesIn_1 : decode b_Mo_piecesIn 1 = .ok (.istore_n 1, 1) := by decide +kernel
theorem d_Mo_piecesIn_2 : decode b_Mo_piecesIn 2 = .ok (.iload_n 0, 1) := by decide +kernel
theorem d_Mo_piecesIn_3 : decode b_Mo_piecesIn 3 = .ok (.istore_n 2, 1) := by decide +kernel
theorem d_Mo_piecesIn_4 : decode b_Mo_piecesIn 4 = .ok (.iload_n 2, 1) := by decide +kernel
theorem d_Mo_piecesIn_5 : decode b_Mo_piecesIn 5 = .ok (.iconst 1, 1) := by decide +kernel
theorem d_Mo_piecesIn_6 : decode b_Mo_piecesIn 6 = .ok (.if_icmp .le 14, 3) := by decide +kernel
theorem d_Mo_piecesIn_9 : decode b_Mo_piecesIn 9 = .ok (.iinc 1 1, 3) := by decide +kernel
theorem d_Mo_piecesIn_12 : decode b_Mo_piecesIn 12 = .ok (.iload_n 2, 1) := by decide +kernel
theorem d_Mo_piecesIn_13 : decode b_Mo_piecesIn 13 = .ok (.bipush 10, 2) := by decide +kernel
theorem d_Mo_piecesIn_15 : decode b_Mo_piecesIn 15 = .ok (.idiv, 1) := by decide +kernel
theorem d_Mo_piecesIn_16 : decode b_Mo_piecesIn 16 = .ok (.istore_n 2, 1) := by decide +kernel
theorem d_Mo_piecesIn_17 : decode b_Mo_piecesIn 17 = .ok (.goto (-13), 3) := by decide +kernel
theorem d_Mo_piecesIn_20 : decode b_Mo_piecesIn 20 = .ok (.iload_n 1, 1) := by decide +kernel
theorem d_Mo_piecesIn_21 : decode b_Mo_piecesIn 21 = .ok (.ireturn, 1) := by decide +kernel
def f_Mo_piecesIn_4  : Nat → Int32 → Int32 → Option Int32
  | 0, _, _ => none
  | n + 1, l1, l2 =>
    if l2 ≤ (1 : Int32) then (
      some l1
    ) else (
      f_Mo_piecesIn_4 n (l1 + (1 : Int32)) (l2 / (10 : Int32))
    )
set_option maxHeartbeats 4000000 in
set_option maxRecDepth 100000 in
theorem t_Mo_piecesIn_4 {h : Hp} {r : Int32} (C : Cx base D cI cZ b_Mo_piecesIn 3 "MovedFoldersModel" "piecesIn" (some .int) p s m args meth c)  : ∀ (n : Nat) (l1 : Int32) (l2 : Int32), f_Mo_piecesIn_4 n l1 l2 = some r → ∀ (H : Heap) (locs : List Loc) (ls : Array Slot), RS base D cI cZ s H locs h → lv_has ls 3 [(1, .int l1), (2, .int l2)] → Wg l base D cI cZ 0 0 0 0 h (some (.int r)) p e s m args below meth c H locs 0 0 (F0 m 4 ls []) := by
  have hx := C.1
  have hb := C.2.1
  intro n
  induction n with
  | zero =>
    intro l1 l2 hM
    rw [f_Mo_piecesIn_4] at hM
    cases hM
  | succ n ih =>
    intro l1 l2 hM H locs ls hS hl
    rw [f_Mo_piecesIn_4] at hM
    refine lv_iload_n hx hb d_Mo_piecesIn_4 rfl (lv_at hl 1 rfl) ?_
    refine lv_iconst (v := (1 : Int32)) hx hb d_Mo_piecesIn_5 (by decide) ?_
    refine lv_icmp_le (tgt := 20) hx hb d_Mo_piecesIn_6 (by decide) (fun c6_1 => ?_) (fun c6_1 => ?_)
    · rw [if_pos c6_1] at hM
      refine lv_iload_n hx hb d_Mo_piecesIn_20 rfl (lv_at hl 0 rfl) ?_
      obtain rfl := Option.some.inj hM
      exact r_iret C hS d_Mo_piecesIn_21
    · rw [if_neg c6_1] at hM
      refine lv_iinc (v := (l1 + (1 : Int32))) (lv' := [(1, .int (l1 + (1 : Int32))), (2, .int l2)]) hx hb d_Mo_piecesIn_9 hl (k := 0) rfl (by rw [oi_1]) (by decide) rfl (fun ls hl => ?_)
      refine lv_iload_n hx hb d_Mo_piecesIn_12 rfl (lv_at hl 1 rfl) ?_
      refine lv_bipush (v := (10 : Int32)) hx hb d_Mo_piecesIn_13 (by decide) ?_
      refine lv_idiv hx hb d_Mo_piecesIn_15 (by decide) ?_
      refine lv_istore_n (lv' := [(2, .int (l2 / (10 : Int32))), (1, .int (l1 + (1 : Int32)))]) hx hb d_Mo_piecesIn_16 rfl hl (by decide) rfl (fun ls hl => ?_)
      refine lv_goto (tgt := 4) hx hb d_Mo_piecesIn_17 (by decide) ?_
      exact ih (l1 + (1 : Int32)) (l2 / (10 : Int32)) hM _ _ _ hS (lv_sub hl [1, 0] rfl)
def f_Mo_piecesIn (l0 : Int32) : Option Int32 :=
  f_Mo_piecesIn_4 FU (0 : Int32) l0
set_option maxHeartbeats 4000000 in
set_option maxRecDepth 100000 in
theorem t_Mo_piecesIn {h : Hp} {l0 : Int32} {r : Int32} (C : Cx base D cI cZ b_Mo_piecesIn 3 "MovedFoldersModel" "piecesIn" (some .int) p s m args meth c) (hM : f_Mo_piecesIn l0 = some r) (H : Heap) (locs : List Loc) (ls : Array Slot) (hS : RS base D cI cZ s H locs h) (hl : lv_has ls 3 [(0, .int l0)]) : Wg l base D cI cZ 0 0 0 0 h (some (.int r)) p e s m args below meth c H locs 0 0 (F0 m 0 ls []) := by
  have hx := C.1
  have hb := C.2.1
  unfold f_Mo_piecesIn at hM
  refine lv_iconst (v := (0 : Int32)) hx hb d_Mo_piecesIn_0 (by decide) ?_
  refine lv_istore_n (lv' := [(1, .int (0 : Int32)), (0, .int l0)]) hx hb d_Mo_piecesIn_1 rfl hl (by decide) rfl (fun ls hl => ?_)
  refine lv_iload_n hx hb d_Mo_piecesIn_2 rfl (lv_at hl 1 rfl) ?_
  refine lv_istore_n (lv' := [(2, .int l0), (1, .int (0 : Int32)), (0, .int l0)]) hx hb d_Mo_piecesIn_3 rfl hl (by decide) rfl (fun ls hl => ?_)
  exact t_Mo_piecesIn_4  C  FU (0 : Int32) l0 hM _ _ _ hS (lv_sub hl [1, 0] rfl)
theorem c_Mo_piecesIn (l : Launch) (base : Nat) (D : va_G) (cI cZ : ClassId) (h : Hp) (l0 : Int32) {r : Int32} (hM : f_Mo_piecesIn l0 = some r) : Ct l base D cI cZ y_Mo_piecesIn b_Mo_piecesIn 3 (some .int) 0 0 0 0 h [.int l0] h (some (.int r)) :=
  ct_of (by decide) (Nat.le_of_ble_eq_true rfl) (fun p e s m below meth c ls C hS hl => t_Mo_piecesIn C hM _ _ _ hS hl)
theorem d_Mo_timesIn_0 : decode b_Mo_timesIn 0 = .ok (.iconst 0, 1) := by decide +kernel
theorem d_Mo_timesIn_1 : decode b_Mo_timesIn 1 = .ok (.istore_n 2, 1) := by decide +kernel
theorem d_Mo_timesIn_2 : decode b_Mo_timesIn 2 = .ok (.iload_n 0, 1) := by decide +kernel
theorem d_Mo_timesIn_3 : decode b_Mo_timesIn 3 = .ok (.istore_n 3, 1) := by decide +kernel
theorem d_Mo_timesIn_4 : decode b_Mo_timesIn 4 = .ok (.iload_n 3, 1) := by decide +kernel
theorem d_Mo_timesIn_5 : decode b_Mo_timesIn 5 = .ok (.iconst 1, 1) := by decide +kernel
theorem d_Mo_timesIn_6 : decode b_Mo_timesIn 6 = .ok (.if_icmp .le 27, 3) := by decide +kernel
theorem d_Mo_timesIn_9 : decode b_Mo_timesIn 9 = .ok (.iload_n 2, 1) := by decide +kernel
theorem d_Mo_timesIn_10 : decode b_Mo_timesIn 10 = .ok (.iload_n 3, 1) := by decide +kernel
theorem d_Mo_timesIn_11 : decode b_Mo_timesIn 11 = .ok (.bipush 10, 2) := by decide +kernel
theorem d_Mo_timesIn_13 : decode b_Mo_timesIn 13 = .ok (.irem, 1) := by decide +kernel
theorem d_Mo_timesIn_14 : decode b_Mo_timesIn 14 = .ok (.iload_n 1, 1) := by decide +kernel
theorem d_Mo_timesIn_15 : decode b_Mo_timesIn 15 = .ok (.if_icmp .ne 7, 3) := by decide +kernel
theorem d_Mo_timesIn_18 : decode b_Mo_timesIn 18 = .ok (.iconst 1, 1) := by decide +kernel
theorem d_Mo_timesIn_19 : decode b_Mo_timesIn 19 = .ok (.goto 4, 3) := by decide +kernel
theorem d_Mo_timesIn_22 : decode b_Mo_timesIn 22 = .ok (.iconst 0, 1) := by decide +kernel
theorem d_Mo_timesIn_23 : decode b_Mo_timesIn 23 = .ok (.iadd, 1) := by decide +kernel
theorem d_Mo_timesIn_24 : decode b_Mo_timesIn 24 = .ok (.istore_n 2, 1) := by decide +kernel
theorem d_Mo_timesIn_25 : decode b_Mo_timesIn 25 = .ok (.iload_n 3, 1) := by decide +kernel
theorem d_Mo_timesIn_26 : decode b_Mo_timesIn 26 = .ok (.bipush 10, 2) := by decide +kernel
theorem d_Mo_timesIn_28 : decode b_Mo_timesIn 28 = .ok (.idiv, 1) := by decide +kernel
theorem d_Mo_timesIn_29 : decode b_Mo_timesIn 29 = .ok (.istore_n 3, 1) := by decide +kernel
theorem d_Mo_timesIn_30 : decode b_Mo_timesIn 30 = .ok (.goto (-26), 3) := by decide +kernel
theorem d_Mo_timesIn_33 : decode b_Mo_timesIn 33 = .ok (.iload_n 2, 1) := by decide +kernel
theorem d_Mo_timesIn_34 : decode b_Mo_timesIn 34 = .ok (.ireturn, 1) := by decide +kernel
def f_Mo_timesIn_4 (l1 : Int32) : Nat → Int32 → Int32 → Option Int32
  | 0, _, _ => none
  | n + 1, l2, l3 =>
    if l3 ≤ (1 : Int32) then (
      some l2
    ) else (
      f_Mo_timesIn_4 l1 n (l2 + (if (irem l3 (10 : Int32)) = l1 then ((1 : Int32)) else ((0 : Int32)))) (l3 / (10 : Int32))
    )
set_option maxHeartbeats 4000000 in
set_option maxRecDepth 100000 in
theorem t_Mo_timesIn_4 {h : Hp} {l1 : Int32} {r : Int32} (C : Cx base D cI cZ b_Mo_timesIn 4 "MovedFoldersModel" "timesIn" (some .int) p s m args meth c)  : ∀ (n : Nat) (l2 : Int32) (l3 : Int32), f_Mo_timesIn_4 l1 n l2 l3 = some r → ∀ (H : Heap) (locs : List Loc) (ls : Array Slot), RS base D cI cZ s H locs h → lv_has ls 4 [(1, .int l1), (2, .int l2), (3, .int l3)] → Wg l base D cI cZ 0 0 0 0 h (some (.int r)) p e s m args below meth c H locs 0 0 (F0 m 4 ls []) := by
  have hx := C.1
  have hb := C.2.1
  intro n
  induction n with
  | zero =>
    intro l2 l3 hM
    rw [f_Mo_timesIn_4] at hM
    cases hM
  | succ n ih =>
    intro l2 l3 hM H locs ls hS hl
    rw [f_Mo_timesIn_4] at hM
    refine lv_iload_n hx hb d_Mo_timesIn_4 rfl (lv_at hl 2 rfl) ?_
    refine lv_iconst (v := (1 : Int32)) hx hb d_Mo_timesIn_5 (by decide) ?_
    refine lv_icmp_le (tgt := 33) hx hb d_Mo_timesIn_6 (by decide) (fun c6_1 => ?_) (fun c6_1 => ?_)
    · rw [if_pos c6_1] at hM
      refine lv_iload_n hx hb d_Mo_timesIn_33 rfl (lv_at hl 1 rfl) ?_
      obtain rfl := Option.some.inj hM
      exact r_iret C hS d_Mo_timesIn_34
    · rw [if_neg c6_1] at hM
      refine lv_iload_n hx hb d_Mo_timesIn_9 rfl (lv_at hl 1 rfl) ?_
      refine lv_iload_n hx hb d_Mo_timesIn_10 rfl (lv_at hl 2 rfl) ?_
      refine lv_bipush (v := (10 : Int32)) hx hb d_Mo_timesIn_11 (by decide) ?_
      refine r_irem hx hb d_Mo_timesIn_13 (by decide) ?_
      refine lv_iload_n hx hb d_Mo_timesIn_14 rfl (lv_at hl 0 rfl) ?_
      have kJ23_2 : ∀ (H : Heap) (locs : List Loc) (ls : Array Slot), RS base D cI cZ s H locs h → lv_has ls 4 [(1, .int l1), (3, .int l3)] → Wg l base D cI cZ 0 0 0 0 h (some (.int r)) p e s m args below meth c H locs 0 0 (F0 m 23 ls [.int (if (irem l3 (10 : Int32)) = l1 then ((1 : Int32)) else ((0 : Int32))), .int l2]) := by
        intro H locs ls hS hl
        refine lv_iadd hx hb d_Mo_timesIn_23 ?_
        refine lv_istore_n (lv' := [(2, .int (l2 + (if (irem l3 (10 : Int32)) = l1 then ((1 : Int32)) else ((0 : Int32))))), (1, .int l1), (3, .int l3)]) hx hb d_Mo_timesIn_24 rfl hl (by decide) rfl (fun ls hl => ?_)
        refine lv_iload_n hx hb d_Mo_timesIn_25 rfl (lv_at hl 2 rfl) ?_
        refine lv_bipush (v := (10 : Int32)) hx hb d_Mo_timesIn_26 (by decide) ?_
        refine lv_idiv hx hb d_Mo_timesIn_28 (by decide) ?_
        refine lv_istore_n (lv' := [(3, .int (l3 / (10 : Int32))), (2, .int (l2 + (if (irem l3 (10 : Int32)) = l1 then ((1 : Int32)) else ((0 : Int32))))), (1, .int l1)]) hx hb d_Mo_timesIn_29 rfl hl (by decide) rfl (fun ls hl => ?_)
        refine lv_goto (tgt := 4) hx hb d_Mo_timesIn_30 (by decide) ?_
        exact ih (l2 + (if (irem l3 (10 : Int32)) = l1 then ((1 : Int32)) else ((0 : Int32)))) (l3 / (10 : Int32)) hM _ _ _ hS (lv_sub hl [2, 1, 0] rfl)
      refine lv_icmp_ne (tgt := 22) hx hb d_Mo_timesIn_15 (by decide) (fun c15_3 => ?_) (fun c15_3 => ?_)
      · rw [if_neg c15_3] at kJ23_2
        refine lv_iconst (v := (0 : Int32)) hx hb d_Mo_timesIn_22 (by decide) ?_
        exact kJ23_2 _ _ _ hS (lv_sub hl [0, 2] rfl)
      · rw [if_pos c15_3] at kJ23_2
        refine lv_iconst (v := (1 : Int32)) hx hb d_Mo_timesIn_18 (by decide) ?_
        refine lv_goto (tgt := 23) hx hb d_Mo_timesIn_19 (by decide) ?_
        exact kJ23_2 _ _ _ hS (lv_sub hl [0, 2] rfl)
def f_Mo_timesIn (l0 : Int32) (l1 : Int32) : Option Int32 :=
  f_Mo_timesIn_4 l1 FU (0 : Int32) l0
set_option maxHeartbeats 4000000 in
set_option maxRecDepth 100000 in
theorem t_Mo_timesIn {h : Hp} {l0 : Int32} {l1 : Int32} {r : Int32} (C : Cx base D cI cZ b_Mo_timesIn 4 "MovedFoldersModel" "timesIn" (some .int) p s m args meth c) (hM : f_Mo_timesIn l0 l1 = some r) (H : Heap) (locs : List Loc) (ls : Array Slot) (hS : RS base D cI cZ s H locs h) (hl : lv_has ls 4 [(0, .int l0), (1, .int l1)]) : Wg l base D cI cZ 0 0 0 0 h (some (.int r)) p e s m args below meth c H locs 0 0 (F0 m 0 ls []) := by
  have hx := C.1
  have hb := C.2.1
  unfold f_Mo_timesIn at hM
  refine lv_iconst (v := (0 : Int32)) hx hb d_Mo_timesIn_0 (by decide) ?_
  refine lv_istore_n (lv' := [(2, .int (0 : Int32)), (0, .int l0), (1, .int l1)]) hx hb d_Mo_timesIn_1 rfl hl (by decide) rfl (fun ls hl => ?_)
  refine lv_iload_n hx hb d_Mo_timesIn_2 rfl (lv_at hl 1 rfl) ?_
  refine lv_istore_n (lv' := [(3, .int l0), (2, .int (0 : Int32)), (0, .int l0), (1, .int l1)]) hx hb d_Mo_timesIn_3 rfl hl (by decide) rfl (fun ls hl => ?_)
  exact t_Mo_timesIn_4  C  FU (0 : Int32) l0 hM _ _ _ hS (lv_sub hl [3, 1, 0] rfl)
theorem c_Mo_timesIn (l : Launch) (base : Nat) (D : va_G) (cI cZ : ClassId) (h : Hp) (l0 : Int32) (l1 : Int32) {r : Int32} (hM : f_Mo_timesIn l0 l1 = some r) : Ct l base D cI cZ y_Mo_timesIn b_Mo_timesIn 4 (some .int) 0 0 0 0 h [.int l0, .int l1] h (some (.int r)) :=
  ct_of (by decide) (Nat.le_of_ble_eq_true rfl) (fun p e s m below meth c ls C hS hl => t_Mo_timesIn C hM _ _ _ hS hl)
theorem d_Mo_alikeOf_0 : decode b_Mo_alikeOf 0 = .ok (.iload_n 0, 1) := by decide +kernel
theorem d_Mo_alikeOf_1 : decode b_Mo_alikeOf 1 = .ok (.invokestatic 138, 3) := by decide +kernel
theorem d_Mo_alikeOf_4 : decode b_Mo_alikeOf 4 = .ok (.iload_n 1, 1) := by decide +kernel
theorem d_Mo_alikeOf_5 : decode b_Mo_alikeOf 5 = .ok (.invokestatic 138, 3) := by decide +kernel
theorem d_Mo_alikeOf_8 : decode b_Mo_alikeOf 8 = .ok (.invokestatic 141, 3) := by decide +kernel
theorem d_Mo_alikeOf_11 : decode b_Mo_alikeOf 11 = .ok (.istore_n 2, 1) := by decide +kernel
theorem d_Mo_alikeOf_12 : decode b_Mo_alikeOf 12 = .ok (.iconst 0, 1) := by decide +kernel
theorem d_Mo_alikeOf_13 : decode b_Mo_alikeOf 13 = .ok (.istore_n 3, 1) := by decide +kernel
theorem d_Mo_alikeOf_14 : decode b_Mo_alikeOf 14 = .ok (.iconst 0, 1) := by decide +kernel
theorem d_Mo_alikeOf_15 : decode b_Mo_alikeOf 15 = .ok (.istore 4, 2) := by decide +kernel
theorem d_Mo_alikeOf_17 : decode b_Mo_alikeOf 17 = .ok (.iload 4, 2) := by decide +kernel
theorem d_Mo_alikeOf_19 : decode b_Mo_alikeOf 19 = .ok (.bipush 10, 2) := by decide +kernel
theorem d_Mo_alikeOf_21 : decode b_Mo_alikeOf 21 = .ok (.if_icmp .ge 27, 3) := by decide +kernel
theorem d_Mo_alikeOf_24 : decode b_Mo_alikeOf 24 = .ok (.iload_n 3, 1) := by decide +kernel
theorem d_Mo_alikeOf_25 : decode b_Mo_alikeOf 25 = .ok (.iload_n 0, 1) := by decide +kernel
theorem d_Mo_alikeOf_26 : decode b_Mo_alikeOf 26 = .ok (.iload 4, 2) := by decide +kernel
theorem d_Mo_alikeOf_28 : decode b_Mo_alikeOf 28 = .ok (.invokestatic 144, 3) := by decide +kernel
theorem d_Mo_alikeOf_31 : decode b_Mo_alikeOf 31 = .ok (.iload_n 1, 1) := by decide +kernel
theorem d_Mo_alikeOf_32 : decode b_Mo_alikeOf 32 = .ok (.iload 4, 2) := by decide +kernel
theorem d_Mo_alikeOf_34 : decode b_Mo_alikeOf 34 = .ok (.invokestatic 144, 3) := by decide +kernel
theorem d_Mo_alikeOf_37 : decode b_Mo_alikeOf 37 = .ok (.invokestatic 147, 3) := by decide +kernel
theorem d_Mo_alikeOf_40 : decode b_Mo_alikeOf 40 = .ok (.iadd, 1) := by decide +kernel
theorem d_Mo_alikeOf_41 : decode b_Mo_alikeOf 41 = .ok (.istore_n 3, 1) := by decide +kernel
theorem d_Mo_alikeOf_42 : decode b_Mo_alikeOf 42 = .ok (.iinc 4 1, 3) := by decide +kernel
theorem d_Mo_alikeOf_45 : decode b_Mo_alikeOf 45 = .ok (.goto (-28), 3) := by decide +kernel
theorem d_Mo_alikeOf_48 : decode b_Mo_alikeOf 48 = .ok (.iload_n 2, 1) := by decide +kernel
theorem d_Mo_alikeOf_49 : decode b_Mo_alikeOf 49 = .ok (.ifCond .ne 8, 3) := by decide +kernel
theorem d_Mo_alikeOf_52 : decode b_Mo_alikeOf 52 = .ok (.bipush 100, 2) := by decide +kernel
theorem d_Mo_alikeOf_54 : decode b_Mo_alikeOf 54 = .ok (.goto 9, 3) := by decide +kernel
theorem d_Mo_alikeOf_57 : decode b_Mo_alikeOf 57 = .ok (.bipush 100, 2) := by decide +kernel
theorem d_Mo_alikeOf_59 : decode b_Mo_alikeOf 59 = .ok (.iload_n 3, 1) := by decide +kernel
theorem d_Mo_alikeOf_60 : decode b_Mo_alikeOf 60 = .ok (.imul, 1) := by decide +kernel
theorem d_Mo_alikeOf_61 : decode b_Mo_alikeOf 61 = .ok (.iload_n 2, 1) := by decide +kernel
theorem d_Mo_alikeOf_62 : decode b_Mo_alikeOf 62 = .ok (.idiv, 1) := by decide +kernel
theorem d_Mo_alikeOf_63 : decode b_Mo_alikeOf 63 = .ok (.ireturn, 1) := by decide +kernel
def f_Mo_alikeOf_17 (l0 : Int32) (l1 : Int32) (l2 : Int32) : Nat → Int32 → Int32 → Option Int32
  | 0, _, _ => none
  | n + 1, l3, l4 =>
    if (10 : Int32) ≤ l4 then (
      (
        if l2 = (0 : Int32) then (
          some (100 : Int32)
        ) else (
          (idv ((100 : Int32) * l3) l2).bind fun t5 =>
          some t5
        )
      ).bind fun t4 =>
      some t4
    ) else (
      (f_Mo_timesIn l0 l4).bind fun t6 =>
      (f_Mo_timesIn l1 l4).bind fun t7 =>
      (f_Mo_less t6 t7).bind fun t8 =>
      f_Mo_alikeOf_17 l0 l1 l2 n (l3 + t8) (l4 + (1 : Int32))
    )
set_option maxHeartbeats 4000000 in
set_option maxRecDepth 100000 in
theorem t_Mo_alikeOf_17 {h : Hp} {l0 : Int32} {l1 : Int32} {l2 : Int32} {r : Int32} (C : Cx base D cI cZ b_Mo_alikeOf 5 "MovedFoldersModel" "alikeOf" (some .int) p s m args meth c)  : ∀ (n : Nat) (l3 : Int32) (l4 : Int32), f_Mo_alikeOf_17 l0 l1 l2 n l3 l4 = some r → ∀ (H : Heap) (locs : List Loc) (ls : Array Slot), RS base D cI cZ s H locs h → lv_has ls 5 [(0, .int l0), (1, .int l1), (2, .int l2), (3, .int l3), (4, .int l4)] → Wg l base D cI cZ 1 23 0 0 h (some (.int r)) p e s m args below meth c H locs 0 0 (F0 m 17 ls []) := by
  have hx := C.1
  have hb := C.2.1
  intro n
  induction n with
  | zero =>
    intro l3 l4 hM
    rw [f_Mo_alikeOf_17] at hM
    cases hM
  | succ n ih =>
    intro l3 l4 hM H locs ls hS hl
    rw [f_Mo_alikeOf_17] at hM
    refine lv_iload hx hb d_Mo_alikeOf_17 (lv_at hl 4 rfl) ?_
    refine lv_bipush (v := (10 : Int32)) hx hb d_Mo_alikeOf_19 (by decide) ?_
    refine lv_icmp_ge (tgt := 48) hx hb d_Mo_alikeOf_21 (by decide) (fun c21_1 => ?_) (fun c21_1 => ?_)
    · rw [if_pos c21_1] at hM
      refine lv_iload_n hx hb d_Mo_alikeOf_48 rfl (lv_at hl 2 rfl) ?_
      obtain ⟨t4, et4, hM⟩ := bS hM
      have kJ63_2 : ∀ (H : Heap) (locs : List Loc) (ls : Array Slot), RS base D cI cZ s H locs h → lv_has ls 5 [] → Wg l base D cI cZ 1 23 0 0 h (some (.int r)) p e s m args below meth c H locs 0 0 (F0 m 63 ls [.int t4]) := by
        intro H locs ls hS hl
        obtain rfl := Option.some.inj hM
        exact r_iret C hS d_Mo_alikeOf_63
      refine lv_if_ne (tgt := 57) hx hb d_Mo_alikeOf_49 (by decide) (fun c49_3 => ?_) (fun c49_3 => ?_)
      · rw [if_neg c49_3] at et4
        refine lv_bipush (v := (100 : Int32)) hx hb d_Mo_alikeOf_57 (by decide) ?_
        refine lv_iload_n hx hb d_Mo_alikeOf_59 rfl (lv_at hl 3 rfl) ?_
        refine lv_imul hx hb d_Mo_alikeOf_60 ?_
        refine lv_iload_n hx hb d_Mo_alikeOf_61 rfl (lv_at hl 2 rfl) ?_
        obtain ⟨t5, et5, et4⟩ := bS et4
        refine r_idivS hx hb d_Mo_alikeOf_62 et5 ?_
        obtain rfl := Option.some.inj et4
        exact kJ63_2 _ _ _ hS (lv_sub hl [] rfl)
      · rw [if_pos c49_3] at et4
        refine lv_bipush (v := (100 : Int32)) hx hb d_Mo_alikeOf_52 (by decide) ?_
        refine lv_goto (tgt := 63) hx hb d_Mo_alikeOf_54 (by decide) ?_
        obtain rfl := Option.some.inj et4
        exact kJ63_2 _ _ _ hS (lv_sub hl [] rfl)
    · rw [if_neg c21_1] at hM
      refine lv_iload_n hx hb d_Mo_alikeOf_24 rfl (lv_at hl 3 rfl) ?_
      refine lv_iload_n hx hb d_Mo_alikeOf_25 rfl (lv_at hl 0 rfl) ?_
      refine lv_iload hx hb d_Mo_alikeOf_26 (lv_at hl 4 rfl) ?_
      obtain ⟨t6, et6, hM⟩ := bS hM
      refine r_callSi (x := t6) C hS cs_Mo_144 (c_Mo_timesIn l base D cI cZ h l0 l4 et6) (rest := [.int l3]) rfl hl.1 rfl (Nat.le_of_ble_eq_true rfl) ⟨(Nat.le_of_ble_eq_true rfl), (Nat.le_of_ble_eq_true rfl)⟩ ⟨(Nat.le_of_ble_eq_true rfl), (Nat.le_of_ble_eq_true rfl)⟩ d_Mo_alikeOf_28 (fun H locs hS => ?_)
      refine lv_iload_n hx hb d_Mo_alikeOf_31 rfl (lv_at hl 1 rfl) ?_
      refine lv_iload hx hb d_Mo_alikeOf_32 (lv_at hl 4 rfl) ?_
      obtain ⟨t7, et7, hM⟩ := bS hM
      refine r_callSi (x := t7) C hS cs_Mo_144 (c_Mo_timesIn l base D cI cZ h l1 l4 et7) (rest := [.int t6, .int l3]) rfl hl.1 rfl (Nat.le_of_ble_eq_true rfl) ⟨(Nat.le_of_ble_eq_true rfl), (Nat.le_of_ble_eq_true rfl)⟩ ⟨(Nat.le_of_ble_eq_true rfl), (Nat.le_of_ble_eq_true rfl)⟩ d_Mo_alikeOf_34 (fun H locs hS => ?_)
      obtain ⟨t8, et8, hM⟩ := bS hM
      refine r_callSi (x := t8) C hS cs_Mo_147 (c_Mo_less l base D cI cZ h t6 t7 et8) (rest := [.int l3]) rfl hl.1 rfl (Nat.le_of_ble_eq_true rfl) ⟨(Nat.le_of_ble_eq_true rfl), (Nat.le_of_ble_eq_true rfl)⟩ ⟨(Nat.le_of_ble_eq_true rfl), (Nat.le_of_ble_eq_true rfl)⟩ d_Mo_alikeOf_37 (fun H locs hS => ?_)
      refine lv_iadd hx hb d_Mo_alikeOf_40 ?_
      refine lv_istore_n (lv' := [(3, .int (l3 + t8)), (0, .int l0), (1, .int l1), (2, .int l2), (4, .int l4)]) hx hb d_Mo_alikeOf_41 rfl hl (by decide) rfl (fun ls hl => ?_)
      refine lv_iinc (v := (l4 + (1 : Int32))) (lv' := [(4, .int (l4 + (1 : Int32))), (3, .int (l3 + t8)), (0, .int l0), (1, .int l1), (2, .int l2)]) hx hb d_Mo_alikeOf_42 hl (k := 4) rfl (by rw [oi_1]) (by decide) rfl (fun ls hl => ?_)
      refine lv_goto (tgt := 17) hx hb d_Mo_alikeOf_45 (by decide) ?_
      exact ih (l3 + t8) (l4 + (1 : Int32)) hM _ _ _ hS (lv_sub hl [2, 3, 4, 1, 0] rfl)
def f_Mo_alikeOf (l0 : Int32) (l1 : Int32) : Option Int32 :=
  (f_Mo_piecesIn l0).bind fun t1 =>
  (f_Mo_piecesIn l1).bind fun t2 =>
  (f_Mo_greater t1 t2).bind fun t3 =>
  f_Mo_alikeOf_17 l0 l1 t3 FU (0 : Int32) (0 : Int32)
set_option maxHeartbeats 4000000 in
set_option maxRecDepth 100000 in
theorem t_Mo_alikeOf {h : Hp} {l0 : Int32} {l1 : Int32} {r : Int32} (C : Cx base D cI cZ b_Mo_alikeOf 5 "MovedFoldersModel" "alikeOf" (some .int) p s m args meth c) (hM : f_Mo_alikeOf l0 l1 = some r) (H : Heap) (locs : List Loc) (ls : Array Slot) (hS : RS base D cI cZ s H locs h) (hl : lv_has ls 5 [(0, .int l0), (1, .int l1)]) : Wg l base D cI cZ 1 23 0 0 h (some (.int r)) p e s m args below meth c H locs 0 0 (F0 m 0 ls []) := by
  have hx := C.1
  have hb := C.2.1
  unfold f_Mo_alikeOf at hM
  refine lv_iload_n hx hb d_Mo_alikeOf_0 rfl (lv_at hl 0 rfl) ?_
  obtain ⟨t1, et1, hM⟩ := bS hM
  refine r_callSi (x := t1) C hS cs_Mo_138 (c_Mo_piecesIn l base D cI cZ h l0 et1) (rest := []) rfl hl.1 rfl (Nat.le_of_ble_eq_true rfl) ⟨(Nat.le_of_ble_eq_true rfl), (Nat.le_of_ble_eq_true rfl)⟩ ⟨(Nat.le_of_ble_eq_true rfl), (Nat.le_of_ble_eq_true rfl)⟩ d_Mo_alikeOf_1 (fun H locs hS => ?_)
  refine lv_iload_n hx hb d_Mo_alikeOf_4 rfl (lv_at hl 1 rfl) ?_
  obtain ⟨t2, et2, hM⟩ := bS hM
  refine r_callSi (x := t2) C hS cs_Mo_138 (c_Mo_piecesIn l base D cI cZ h l1 et2) (rest := [.int t1]) rfl hl.1 rfl (Nat.le_of_ble_eq_true rfl) ⟨(Nat.le_of_ble_eq_true rfl), (Nat.le_of_ble_eq_true rfl)⟩ ⟨(Nat.le_of_ble_eq_true rfl), (Nat.le_of_ble_eq_true rfl)⟩ d_Mo_alikeOf_5 (fun H locs hS => ?_)
  obtain ⟨t3, et3, hM⟩ := bS hM
  refine r_callSi (x := t3) C hS cs_Mo_141 (c_Mo_greater l base D cI cZ h t1 t2 et3) (rest := []) rfl hl.1 rfl (Nat.le_of_ble_eq_true rfl) ⟨(Nat.le_of_ble_eq_true rfl), (Nat.le_of_ble_eq_true rfl)⟩ ⟨(Nat.le_of_ble_eq_true rfl), (Nat.le_of_ble_eq_true rfl)⟩ d_Mo_alikeOf_8 (fun H locs hS => ?_)
  refine lv_istore_n (lv' := [(2, .int t3), (0, .int l0), (1, .int l1)]) hx hb d_Mo_alikeOf_11 rfl hl (by decide) rfl (fun ls hl => ?_)
  refine lv_iconst (v := (0 : Int32)) hx hb d_Mo_alikeOf_12 (by decide) ?_
  refine lv_istore_n (lv' := [(3, .int (0 : Int32)), (2, .int t3), (0, .int l0), (1, .int l1)]) hx hb d_Mo_alikeOf_13 rfl hl (by decide) rfl (fun ls hl => ?_)
  refine lv_iconst (v := (0 : Int32)) hx hb d_Mo_alikeOf_14 (by decide) ?_
  refine lv_istore (lv' := [(4, .int (0 : Int32)), (3, .int (0 : Int32)), (2, .int t3), (0, .int l0), (1, .int l1)]) hx hb d_Mo_alikeOf_15 hl (by decide) rfl (fun ls hl => ?_)
  exact t_Mo_alikeOf_17  C  FU (0 : Int32) (0 : Int32) hM _ _ _ hS (lv_sub hl [3, 4, 2, 1, 0] rfl)
theorem c_Mo_alikeOf (l : Launch) (base : Nat) (D : va_G) (cI cZ : ClassId) (h : Hp) (l0 : Int32) (l1 : Int32) {r : Int32} (hM : f_Mo_alikeOf l0 l1 = some r) : Ct l base D cI cZ y_Mo_alikeOf b_Mo_alikeOf 5 (some .int) 1 23 0 0 h [.int l0, .int l1] h (some (.int r)) :=
  ct_of (by decide) (Nat.le_of_ble_eq_true rfl) (fun p e s m below meth c ls C hS hl => t_Mo_alikeOf C hM _ _ _ hS hl)
theorem d_Mo_limit_0 : decode b_Mo_limit 0 = .ok (.iload_n 1, 1) := by decide +kernel
theorem d_Mo_limit_1 : decode b_Mo_limit 1 = .ok (.i2l, 1) := by decide +kernel
theorem d_Mo_limit_2 : decode b_Mo_limit 2 = .ok (.lconst 1, 1) := by decide +kernel
theorem d_Mo_limit_3 : decode b_Mo_limit 3 = .ok (.ldc2_w 150, 3) := by decide +kernel
theorem d_Mo_limit_6 : decode b_Mo_limit 6 = .ok (.invokestatic 65, 3) := by decide +kernel
theorem d_Mo_limit_9 : decode b_Mo_limit 9 = .ok (.ifCond .ne 6, 3) := by decide +kernel
theorem d_Mo_limit_12 : decode b_Mo_limit 12 = .ok (.bipush (-2), 2) := by decide +kernel
theorem d_Mo_limit_14 : decode b_Mo_limit 14 = .ok (.ireturn, 1) := by decide +kernel
theorem d_Mo_limit_15 : decode b_Mo_limit 15 = .ok (.aload_n 0, 1) := by decide +kernel
theorem d_Mo_limit_16 : decode b_Mo_limit 16 = .ok (.getfield 19, 3) := by decide +kernel
theorem d_Mo_limit_19 : decode b_Mo_limit 19 = .ok (.istore_n 2, 1) := by decide +kernel
theorem d_Mo_limit_20 : decode b_Mo_limit 20 = .ok (.aload_n 0, 1) := by decide +kernel
theorem d_Mo_limit_21 : decode b_Mo_limit 21 = .ok (.iload_n 1, 1) := by decide +kernel
theorem d_Mo_limit_22 : decode b_Mo_limit 22 = .ok (.putfield 19, 3) := by decide +kernel
theorem d_Mo_limit_25 : decode b_Mo_limit 25 = .ok (.iload_n 2, 1) := by decide +kernel
theorem d_Mo_limit_26 : decode b_Mo_limit 26 = .ok (.ireturn, 1) := by decide +kernel
def f_Mo_limit (h : Hp) (l0 : Nat) (l1 : Int32) : Option (Int32 × Hp) :=
  ck h 9 l0 (
    (f_Mo_in (l1.toInt64) (1 : Int64) (100 : Int64)).bind fun t1 =>
    if t1 = (0 : Int32) then (
      some ((-2 : Int32), h)
    ) else (
      (gI h 9 l0 3).bind fun t2 =>
      (sI h 9 l0 3 l1).bind fun h3 =>
      some (t2, h3)
    )
  )
theorem o_Mo_limit {h : Hp} {l0 : Nat} {l1 : Int32} {r : (Int32 × Hp)} (hM : f_Mo_limit h l0 l1 = some r) : isO h 9 l0 = true := by
  unfold f_Mo_limit at hM
  exact (ck_some hM).1
set_option maxHeartbeats 4000000 in
set_option maxRecDepth 100000 in
theorem t_Mo_limit {h : Hp} {l0 : Nat} {l1 : Int32} {r : (Int32 × Hp)} (C : Cx base D cI cZ b_Mo_limit 3 "MovedFoldersModel" "limit" (some .int) p s m args meth c) (hM : f_Mo_limit h l0 l1 = some r) (H : Heap) (locs : List Loc) (ls : Array Slot) (hS : RS base D cI cZ s H locs h) (hl : lv_has ls 3 [(0, .ref (base + l0)), (1, .int l1)]) : Wg l base D cI cZ 1 25 0 0 r.2 (some (.int r.1)) p e s m args below meth c H locs 0 0 (F0 m 0 ls []) := by
  have hx := C.1
  have hb := C.2.1
  unfold f_Mo_limit at hM
  replace hM := (ck_some hM).2
  refine lv_iload_n hx hb d_Mo_limit_0 rfl (lv_at hl 1 rfl) ?_
  refine lv_i2l (v := (l1.toInt64)) hx hb d_Mo_limit_1 rfl ?_
  refine lv_lconst (v := (1 : Int64)) hx hb d_Mo_limit_2 (by decide) ?_
  refine lv_ldc2 (v := (100 : Int64)) hx hb C.2.2.2.1 (C.2.2.2.2.1 _ kl_Mo_150) d_Mo_limit_3 ?_
  obtain ⟨t1, et1, hM⟩ := bS hM
  refine r_callSi (x := t1) C hS cs_Mo_65 (c_Mo_in l base D cI cZ h (l1.toInt64) (1 : Int64) (100 : Int64) et1) (rest := []) rfl hl.1 rfl (Nat.le_of_ble_eq_true rfl) ⟨(Nat.le_of_ble_eq_true rfl), (Nat.le_of_ble_eq_true rfl)⟩ ⟨(Nat.le_of_ble_eq_true rfl), (Nat.le_of_ble_eq_true rfl)⟩ d_Mo_limit_6 (fun H locs hS => ?_)
  refine lv_if_ne (tgt := 15) hx hb d_Mo_limit_9 (by decide) (fun c9_1 => ?_) (fun c9_1 => ?_)
  · rw [if_neg c9_1] at hM
    refine lv_aload_n hx hb d_Mo_limit_15 rfl (lv_at hl 0 rfl) ?_
    obtain ⟨t2, et2, hM⟩ := bS hM
    refine r_getI C hS fl_Mo_19 et2 d_Mo_limit_16 ?_
    refine lv_istore_n (lv' := [(2, .int t2), (0, .ref (base + l0)), (1, .int l1)]) hx hb d_Mo_limit_19 rfl hl (by decide) rfl (fun ls hl => ?_)
    refine lv_aload_n hx hb d_Mo_limit_20 rfl (lv_at hl 1 rfl) ?_
    refine lv_iload_n hx hb d_Mo_limit_21 rfl (lv_at hl 2 rfl) ?_
    obtain ⟨h3, eh3, hM⟩ := bS hM
    refine r_putI C hS fp_Mo_19 eh3 d_Mo_limit_22 (fun H locs hS => ?_)
    refine lv_iload_n hx hb d_Mo_limit_25 rfl (lv_at hl 0 rfl) ?_
    obtain rfl := Option.some.inj hM
    exact r_iret C hS d_Mo_limit_26
  · rw [if_pos c9_1] at hM
    refine lv_bipush (v := (-2 : Int32)) hx hb d_Mo_limit_12 (by decide) ?_
    obtain rfl := Option.some.inj hM
    exact r_iret C hS d_Mo_limit_14
theorem c_Mo_limit (l : Launch) (base : Nat) (D : va_G) (cI cZ : ClassId) (h : Hp) (l0 : Nat) (l1 : Int32) {r : (Int32 × Hp)} (hM : f_Mo_limit h l0 l1 = some r) : Ct l base D cI cZ y_Mo_limit b_Mo_limit 3 (some .int) 1 25 0 0 h [.ref (base + l0), .int l1] r.2 (some (.int r.1)) :=
  ct_of (by decide) (Nat.le_of_ble_eq_true rfl) (fun p e s m below meth c ls C hS hl => t_Mo_limit C hM _ _ _ hS hl)
theorem d_Mo_alike_0 : decode b_Mo_alike 0 = .ok (.aload_n 0, 1) := by decide +kernel
theorem d_Mo_alike_1 : decode b_Mo_alike 1 = .ok (.iload_n 1, 1) := by decide +kernel
theorem d_Mo_alike_2 : decode b_Mo_alike 2 = .ok (.iload_n 2, 1) := by decide +kernel
theorem d_Mo_alike_3 : decode b_Mo_alike 3 = .ok (.invokevirtual 128, 3) := by decide +kernel
theorem d_Mo_alike_6 : decode b_Mo_alike 6 = .ok (.ifCond .eq 32, 3) := by decide +kernel
theorem d_Mo_alike_9 : decode b_Mo_alike 9 = .ok (.aload_n 0, 1) := by decide +kernel
theorem d_Mo_alike_10 : decode b_Mo_alike 10 = .ok (.iload_n 3, 1) := by decide +kernel
theorem d_Mo_alike_11 : decode b_Mo_alike 11 = .ok (.iload 4, 2) := by decide +kernel
theorem d_Mo_alike_13 : decode b_Mo_alike 13 = .ok (.invokevirtual 128, 3) := by decide +kernel
theorem d_Mo_alike_16 : decode b_Mo_alike 16 = .ok (.ifCond .eq 22, 3) := by decide +kernel
theorem d_Mo_alike_19 : decode b_Mo_alike 19 = .ok (.aload_n 0, 1) := by decide +kernel
theorem d_Mo_alike_20 : decode b_Mo_alike 20 = .ok (.iload_n 1, 1) := by decide +kernel
theorem d_Mo_alike_21 : decode b_Mo_alike 21 = .ok (.iload_n 2, 1) := by decide +kernel
theorem d_Mo_alike_22 : decode b_Mo_alike 22 = .ok (.invokevirtual 132, 3) := by decide +kernel
theorem d_Mo_alike_25 : decode b_Mo_alike 25 = .ok (.aload_n 0, 1) := by decide +kernel
theorem d_Mo_alike_26 : decode b_Mo_alike 26 = .ok (.iload_n 3, 1) := by decide +kernel
theorem d_Mo_alike_27 : decode b_Mo_alike 27 = .ok (.iload 4, 2) := by decide +kernel
theorem d_Mo_alike_29 : decode b_Mo_alike 29 = .ok (.invokevirtual 132, 3) := by decide +kernel
theorem d_Mo_alike_32 : decode b_Mo_alike 32 = .ok (.invokestatic 152, 3) := by decide +kernel
theorem d_Mo_alike_35 : decode b_Mo_alike 35 = .ok (.goto 4, 3) := by decide +kernel
theorem d_Mo_alike_38 : decode b_Mo_alike 38 = .ok (.iconst (-1), 1) := by decide +kernel
theorem d_Mo_alike_39 : decode b_Mo_alike 39 = .ok (.ireturn, 1) := by decide +kernel
def f_Mo_alike (h : Hp) (l0 : Nat) (l1 : Int32) (l2 : Int32) (l3 : Int32) (l4 : Int32) : Option Int32 :=
  ck h 9 l0 (
    (f_Mo_isFile h l0 l1 l2).bind fun t1 =>
    (
      if t1 = (0 : Int32) then (
        some (-1 : Int32)
      ) else (
        (f_Mo_isFile h l0 l3 l4).bind fun t3 =>
        if t3 = (0 : Int32) then (
          some (-1 : Int32)
        ) else (
          (f_Mo_contentAt h l0 l1 l2).bind fun t4 =>
          (f_Mo_contentAt h l0 l3 l4).bind fun t5 =>
          (f_Mo_alikeOf t4 t5).bind fun t6 =>
          some t6
        )
      )
    ).bind fun t2 =>
    some t2
  )
theorem o_Mo_alike {h : Hp} {l0 : Nat} {l1 : Int32} {l2 : Int32} {l3 : Int32} {l4 : Int32} {r : Int32} (hM : f_Mo_alike h l0 l1 l2 l3 l4 = some r) : isO h 9 l0 = true := by
  unfold f_Mo_alike at hM
  exact (ck_some hM).1
set_option maxHeartbeats 4000000 in
set_option maxRecDepth 100000 in
theorem t_Mo_alike {h : Hp} {l0 : Nat} {l1 : Int32} {l2 : Int32} {l3 : Int32} {l4 : Int32} {r : Int32} (C : Cx base D cI cZ b_Mo_alike 5 "MovedFoldersModel" "alike" (some .int) p s m args meth c) (hM : f_Mo_alike h l0 l1 l2 l3 l4 = some r) (H : Heap) (locs : List Loc) (ls : Array Slot) (hS : RS base D cI cZ s H locs h) (hl : lv_has ls 5 [(0, .ref (base + l0)), (1, .int l1), (2, .int l2), (3, .int l3), (4, .int l4)]) : Wg l base D cI cZ 3 67 0 0 h (some (.int r)) p e s m args below meth c H locs 0 0 (F0 m 0 ls []) := by
  have hx := C.1
  have hb := C.2.1
  unfold f_Mo_alike at hM
  replace hM := (ck_some hM).2
  refine lv_aload_n hx hb d_Mo_alike_0 rfl (lv_at hl 0 rfl) ?_
  refine lv_iload_n hx hb d_Mo_alike_1 rfl (lv_at hl 1 rfl) ?_
  refine lv_iload_n hx hb d_Mo_alike_2 rfl (lv_at hl 2 rfl) ?_
  obtain ⟨t1, et1, hM⟩ := bS hM
  refine r_callVi (x := t1) C hS cv_Mo_128 (c_Mo_isFile l base D cI cZ h l0 l1 l2 et1) (o_Mo_isFile et1) (rest := []) rfl hl.1 rfl (Nat.le_of_ble_eq_true rfl) ⟨(Nat.le_of_ble_eq_true rfl), (Nat.le_of_ble_eq_true rfl)⟩ ⟨(Nat.le_of_ble_eq_true rfl), (Nat.le_of_ble_eq_true rfl)⟩ d_Mo_alike_3 (fun H locs hS => ?_)
  obtain ⟨t2, et2, hM⟩ := bS hM
  have kJ39_1 : ∀ (H : Heap) (locs : List Loc) (ls : Array Slot), RS base D cI cZ s H locs h → lv_has ls 5 [] → Wg l base D cI cZ 3 67 0 0 h (some (.int r)) p e s m args below meth c H locs 0 0 (F0 m 39 ls [.int t2]) := by
    intro H locs ls hS hl
    obtain rfl := Option.some.inj hM
    exact r_iret C hS d_Mo_alike_39
  refine lv_if_eq (tgt := 38) hx hb d_Mo_alike_6 (by decide) (fun c6_2 => ?_) (fun c6_2 => ?_)
  · rw [if_pos c6_2] at et2
    refine lv_iconst (v := (-1 : Int32)) hx hb d_Mo_alike_38 (by decide) ?_
    obtain rfl := Option.some.inj et2
    exact kJ39_1 _ _ _ hS (lv_sub hl [] rfl)
  · rw [if_neg c6_2] at et2
    refine lv_aload_n hx hb d_Mo_alike_9 rfl (lv_at hl 0 rfl) ?_
    refine lv_iload_n hx hb d_Mo_alike_10 rfl (lv_at hl 3 rfl) ?_
    refine lv_iload hx hb d_Mo_alike_11 (lv_at hl 4 rfl) ?_
    obtain ⟨t3, et3, et2⟩ := bS et2
    refine r_callVi (x := t3) C hS cv_Mo_128 (c_Mo_isFile l base D cI cZ h l0 l3 l4 et3) (o_Mo_isFile et3) (rest := []) rfl hl.1 rfl (Nat.le_of_ble_eq_true rfl) ⟨(Nat.le_of_ble_eq_true rfl), (Nat.le_of_ble_eq_true rfl)⟩ ⟨(Nat.le_of_ble_eq_true rfl), (Nat.le_of_ble_eq_true rfl)⟩ d_Mo_alike_13 (fun H locs hS => ?_)
    refine lv_if_eq (tgt := 38) hx hb d_Mo_alike_16 (by decide) (fun c16_3 => ?_) (fun c16_3 => ?_)
    · rw [if_pos c16_3] at et2
      refine lv_iconst (v := (-1 : Int32)) hx hb d_Mo_alike_38 (by decide) ?_
      obtain rfl := Option.some.inj et2
      exact kJ39_1 _ _ _ hS (lv_sub hl [] rfl)
    · rw [if_neg c16_3] at et2
      refine lv_aload_n hx hb d_Mo_alike_19 rfl (lv_at hl 0 rfl) ?_
      refine lv_iload_n hx hb d_Mo_alike_20 rfl (lv_at hl 1 rfl) ?_
      refine lv_iload_n hx hb d_Mo_alike_21 rfl (lv_at hl 2 rfl) ?_
      obtain ⟨t4, et4, et2⟩ := bS et2
      refine r_callVi (x := t4) C hS cv_Mo_132 (c_Mo_contentAt l base D cI cZ h l0 l1 l2 et4) (o_Mo_contentAt et4) (rest := []) rfl hl.1 rfl (Nat.le_of_ble_eq_true rfl) ⟨(Nat.le_of_ble_eq_true rfl), (Nat.le_of_ble_eq_true rfl)⟩ ⟨(Nat.le_of_ble_eq_true rfl), (Nat.le_of_ble_eq_true rfl)⟩ d_Mo_alike_22 (fun H locs hS => ?_)
      refine lv_aload_n hx hb d_Mo_alike_25 rfl (lv_at hl 0 rfl) ?_
      refine lv_iload_n hx hb d_Mo_alike_26 rfl (lv_at hl 3 rfl) ?_
      refine lv_iload hx hb d_Mo_alike_27 (lv_at hl 4 rfl) ?_
      obtain ⟨t5, et5, et2⟩ := bS et2
      refine r_callVi (x := t5) C hS cv_Mo_132 (c_Mo_contentAt l base D cI cZ h l0 l3 l4 et5) (o_Mo_contentAt et5) (rest := [.int t4]) rfl hl.1 rfl (Nat.le_of_ble_eq_true rfl) ⟨(Nat.le_of_ble_eq_true rfl), (Nat.le_of_ble_eq_true rfl)⟩ ⟨(Nat.le_of_ble_eq_true rfl), (Nat.le_of_ble_eq_true rfl)⟩ d_Mo_alike_29 (fun H locs hS => ?_)
      obtain ⟨t6, et6, et2⟩ := bS et2
      refine r_callSi (x := t6) C hS cs_Mo_152 (c_Mo_alikeOf l base D cI cZ h t4 t5 et6) (rest := []) rfl hl.1 rfl (Nat.le_of_ble_eq_true rfl) ⟨(Nat.le_of_ble_eq_true rfl), (Nat.le_of_ble_eq_true rfl)⟩ ⟨(Nat.le_of_ble_eq_true rfl), (Nat.le_of_ble_eq_true rfl)⟩ d_Mo_alike_32 (fun H locs hS => ?_)
      refine lv_goto (tgt := 39) hx hb d_Mo_alike_35 (by decide) ?_
      obtain rfl := Option.some.inj et2
      exact kJ39_1 _ _ _ hS (lv_sub hl [] rfl)
theorem c_Mo_alike (l : Launch) (base : Nat) (D : va_G) (cI cZ : ClassId) (h : Hp) (l0 : Nat) (l1 : Int32) (l2 : Int32) (l3 : Int32) (l4 : Int32) {r : Int32} (hM : f_Mo_alike h l0 l1 l2 l3 l4 = some r) : Ct l base D cI cZ y_Mo_alike b_Mo_alike 5 (some .int) 3 67 0 0 h [.ref (base + l0), .int l1, .int l2, .int l3, .int l4] h (some (.int r)) :=
  ct_of (by decide) (Nat.le_of_ble_eq_true rfl) (fun p e s m below meth c ls C hS hl => t_Mo_alike C hM _ _ _ hS hl)
theorem d_Mo_join_0 : decode b_Mo_join 0 = .ok (.aload_n 0, 1) := by decide +kernel
theorem d_Mo_join_1 : decode b_Mo_join 1 = .ok (.getfield 26, 3) := by decide +kernel
theorem d_Mo_join_4 : decode b_Mo_join 4 = .ok (.bipush 12, 2) := by decide +kernel
theorem d_Mo_join_6 : decode b_Mo_join 6 = .ok (.iload_n 1, 1) := by decide +kernel
theorem d_Mo_join_7 : decode b_Mo_join 7 = .ok (.imul, 1) := by decide +kernel
theorem d_Mo_join_8 : decode b_Mo_join 8 = .ok (.iload_n 2, 1) := by decide +kernel
theorem d_Mo_join_9 : decode b_Mo_join 9 = .ok (.iadd, 1) := by decide +kernel
theorem d_Mo_join_10 : decode b_Mo_join 10 = .ok (.iload_n 3, 1) := by decide +kernel
theorem d_Mo_join_11 : decode b_Mo_join 11 = .ok (.iastore, 1) := by decide +kernel
theorem d_Mo_join_12 : decode b_Mo_join 12 = .ok (.aload_n 0, 1) := by decide +kernel
theorem d_Mo_join_13 : decode b_Mo_join 13 = .ok (.getfield 29, 3) := by decide +kernel
theorem d_Mo_join_16 : decode b_Mo_join 16 = .ok (.bipush 12, 2) := by decide +kernel
theorem d_Mo_join_18 : decode b_Mo_join 18 = .ok (.iload_n 1, 1) := by decide +kernel
theorem d_Mo_join_19 : decode b_Mo_join 19 = .ok (.imul, 1) := by decide +kernel
theorem d_Mo_join_20 : decode b_Mo_join 20 = .ok (.iload_n 2, 1) := by decide +kernel
theorem d_Mo_join_21 : decode b_Mo_join 21 = .ok (.iadd, 1) := by decide +kernel
theorem d_Mo_join_22 : decode b_Mo_join 22 = .ok (.iload 4, 2) := by decide +kernel
theorem d_Mo_join_24 : decode b_Mo_join 24 = .ok (.iastore, 1) := by decide +kernel
theorem d_Mo_join_25 : decode b_Mo_join 25 = .ok (.aload_n 0, 1) := by decide +kernel
theorem d_Mo_join_26 : decode b_Mo_join 26 = .ok (.getfield 32, 3) := by decide +kernel
theorem d_Mo_join_29 : decode b_Mo_join 29 = .ok (.bipush 12, 2) := by decide +kernel
theorem d_Mo_join_31 : decode b_Mo_join 31 = .ok (.iload_n 1, 1) := by decide +kernel
theorem d_Mo_join_32 : decode b_Mo_join 32 = .ok (.imul, 1) := by decide +kernel
theorem d_Mo_join_33 : decode b_Mo_join 33 = .ok (.iload_n 3, 1) := by decide +kernel
theorem d_Mo_join_34 : decode b_Mo_join 34 = .ok (.iadd, 1) := by decide +kernel
theorem d_Mo_join_35 : decode b_Mo_join 35 = .ok (.iload_n 2, 1) := by decide +kernel
theorem d_Mo_join_36 : decode b_Mo_join 36 = .ok (.iastore, 1) := by decide +kernel
theorem d_Mo_join_37 : decode b_Mo_join 37 = .ok (.return_, 1) := by decide +kernel
def f_Mo_join (h : Hp) (l0 : Nat) (l1 : Int32) (l2 : Int32) (l3 : Int32) (l4 : Int32) : Option Hp :=
  ck h 9 l0 (
    (gR h 9 l0 11).bind fun t1 =>
    (sA h t1 (((12 : Int32) * l1) + l2) l3).bind fun h2 =>
    (gR h2 9 l0 12).bind fun t3 =>
    (sA h2 t3 (((12 : Int32) * l1) + l2) l4).bind fun h4 =>
    (gR h4 9 l0 13).bind fun t5 =>
    (sA h4 t5 (((12 : Int32) * l1) + l3) l2).bind fun h6 =>
    some h6
  )
theorem o_Mo_join {h : Hp} {l0 : Nat} {l1 : Int32} {l2 : Int32} {l3 : Int32} {l4 : Int32} {r : Hp} (hM : f_Mo_join h l0 l1 l2 l3 l4 = some r) : isO h 9 l0 = true := by
  unfold f_Mo_join at hM
  exact (ck_some hM).1
set_option maxHeartbeats 4000000 in
set_option maxRecDepth 100000 in
theorem t_Mo_join {h : Hp} {l0 : Nat} {l1 : Int32} {l2 : Int32} {l3 : Int32} {l4 : Int32} {r : Hp} (C : Cx base D cI cZ b_Mo_join 5 "MovedFoldersModel" "join" none p s m args meth c) (hM : f_Mo_join h l0 l1 l2 l3 l4 = some r) (H : Heap) (locs : List Loc) (ls : Array Slot) (hS : RS base D cI cZ s H locs h) (hl : lv_has ls 5 [(0, .ref (base + l0)), (1, .int l1), (2, .int l2), (3, .int l3), (4, .int l4)]) : Wg l base D cI cZ 0 0 0 0 r none p e s m args below meth c H locs 0 0 (F0 m 0 ls []) := by
  have hx := C.1
  have hb := C.2.1
  unfold f_Mo_join at hM
  replace hM := (ck_some hM).2
  refine lv_aload_n hx hb d_Mo_join_0 rfl (lv_at hl 0 rfl) ?_
  obtain ⟨t1, et1, hM⟩ := bS hM
  refine r_getR C hS fl_Mo_26 et1 d_Mo_join_1 ?_
  refine lv_bipush (v := (12 : Int32)) hx hb d_Mo_join_4 (by decide) ?_
  refine lv_iload_n hx hb d_Mo_join_6 rfl (lv_at hl 1 rfl) ?_
  refine lv_imul hx hb d_Mo_join_7 ?_
  refine lv_iload_n hx hb d_Mo_join_8 rfl (lv_at hl 2 rfl) ?_
  refine lv_iadd hx hb d_Mo_join_9 ?_
  refine lv_iload_n hx hb d_Mo_join_10 rfl (lv_at hl 3 rfl) ?_
  obtain ⟨h2, eh2, hM⟩ := bS hM
  refine r_iast C hS eh2 d_Mo_join_11 (fun H locs hS => ?_)
  refine lv_aload_n hx hb d_Mo_join_12 rfl (lv_at hl 0 rfl) ?_
  obtain ⟨t3, et3, hM⟩ := bS hM
  refine r_getR C hS fl_Mo_29 et3 d_Mo_join_13 ?_
  refine lv_bipush (v := (12 : Int32)) hx hb d_Mo_join_16 (by decide) ?_
  refine lv_iload_n hx hb d_Mo_join_18 rfl (lv_at hl 1 rfl) ?_
  refine lv_imul hx hb d_Mo_join_19 ?_
  refine lv_iload_n hx hb d_Mo_join_20 rfl (lv_at hl 2 rfl) ?_
  refine lv_iadd hx hb d_Mo_join_21 ?_
  refine lv_iload hx hb d_Mo_join_22 (lv_at hl 4 rfl) ?_
  obtain ⟨h4, eh4, hM⟩ := bS hM
  refine r_iast C hS eh4 d_Mo_join_24 (fun H locs hS => ?_)
  refine lv_aload_n hx hb d_Mo_join_25 rfl (lv_at hl 0 rfl) ?_
  obtain ⟨t5, et5, hM⟩ := bS hM
  refine r_getR C hS fl_Mo_32 et5 d_Mo_join_26 ?_
  refine lv_bipush (v := (12 : Int32)) hx hb d_Mo_join_29 (by decide) ?_
  refine lv_iload_n hx hb d_Mo_join_31 rfl (lv_at hl 1 rfl) ?_
  refine lv_imul hx hb d_Mo_join_32 ?_
  refine lv_iload_n hx hb d_Mo_join_33 rfl (lv_at hl 3 rfl) ?_
  refine lv_iadd hx hb d_Mo_join_34 ?_
  refine lv_iload_n hx hb d_Mo_join_35 rfl (lv_at hl 2 rfl) ?_
  obtain ⟨h6, eh6, hM⟩ := bS hM
  refine r_iast C hS eh6 d_Mo_join_36 (fun H locs hS => ?_)
  obtain rfl := Option.some.inj hM
  exact r_vret C hS d_Mo_join_37
theorem c_Mo_join (l : Launch) (base : Nat) (D : va_G) (cI cZ : ClassId) (h : Hp) (l0 : Nat) (l1 : Int32) (l2 : Int32) (l3 : Int32) (l4 : Int32) {r : Hp} (hM : f_Mo_join h l0 l1 l2 l3 l4 = some r) : Ct l base D cI cZ y_Mo_join b_Mo_join 5 none 0 0 0 0 h [.ref (base + l0), .int l1, .int l2, .int l3, .int l4] r none :=
  ct_of (by decide) (Nat.le_of_ble_eq_true rfl) (fun p e s m below meth c ls C hS hl => t_Mo_join C hM _ _ _ hS hl)
theorem d_Mo_isLeft_0 : decode b_Mo_isLeft 0 = .ok (.aload_n 0, 1) := by decide +kernel
theorem d_Mo_isLeft_1 : decode b_Mo_isLeft 1 = .ok (.getfield 26, 3) := by decide +kernel
theorem d_Mo_isLeft_4 : decode b_Mo_isLeft 4 = .ok (.bipush 12, 2) := by decide +kernel
theorem d_Mo_isLeft_6 : decode b_Mo_isLeft 6 = .ok (.iload_n 1, 1) := by decide +kernel
theorem d_Mo_isLeft_7 : decode b_Mo_isLeft 7 = .ok (.imul, 1) := by decide +kernel
theorem d_Mo_isLeft_8 : decode b_Mo_isLeft 8 = .ok (.iload_n 2, 1) := by decide +kernel
theorem d_Mo_isLeft_9 : decode b_Mo_isLeft 9 = .ok (.iadd, 1) := by decide +kernel
theorem d_Mo_isLeft_10 : decode b_Mo_isLeft 10 = .ok (.iaload, 1) := by decide +kernel
theorem d_Mo_isLeft_11 : decode b_Mo_isLeft 11 = .ok (.ifCond .ge 41, 3) := by decide +kernel
theorem d_Mo_isLeft_14 : decode b_Mo_isLeft 14 = .ok (.aload_n 0, 1) := by decide +kernel
theorem d_Mo_isLeft_15 : decode b_Mo_isLeft 15 = .ok (.getfield 32, 3) := by decide +kernel
theorem d_Mo_isLeft_18 : decode b_Mo_isLeft 18 = .ok (.bipush 12, 2) := by decide +kernel
theorem d_Mo_isLeft_20 : decode b_Mo_isLeft 20 = .ok (.iload_n 1, 1) := by decide +kernel
theorem d_Mo_isLeft_21 : decode b_Mo_isLeft 21 = .ok (.imul, 1) := by decide +kernel
theorem d_Mo_isLeft_22 : decode b_Mo_isLeft 22 = .ok (.iload_n 3, 1) := by decide +kernel
theorem d_Mo_isLeft_23 : decode b_Mo_isLeft 23 = .ok (.iadd, 1) := by decide +kernel
theorem d_Mo_isLeft_24 : decode b_Mo_isLeft 24 = .ok (.iaload, 1) := by decide +kernel
theorem d_Mo_isLeft_25 : decode b_Mo_isLeft 25 = .ok (.ifCond .ge 27, 3) := by decide +kernel
theorem d_Mo_isLeft_28 : decode b_Mo_isLeft 28 = .ok (.aload_n 0, 1) := by decide +kernel
theorem d_Mo_isLeft_29 : decode b_Mo_isLeft 29 = .ok (.iconst 0, 1) := by decide +kernel
theorem d_Mo_isLeft_30 : decode b_Mo_isLeft 30 = .ok (.iload_n 2, 1) := by decide +kernel
theorem d_Mo_isLeft_31 : decode b_Mo_isLeft 31 = .ok (.invokevirtual 132, 3) := by decide +kernel
theorem d_Mo_isLeft_34 : decode b_Mo_isLeft 34 = .ok (.iconst 1, 1) := by decide +kernel
theorem d_Mo_isLeft_35 : decode b_Mo_isLeft 35 = .ok (.if_icmp .le 17, 3) := by decide +kernel
theorem d_Mo_isLeft_38 : decode b_Mo_isLeft 38 = .ok (.aload_n 0, 1) := by decide +kernel
theorem d_Mo_isLeft_39 : decode b_Mo_isLeft 39 = .ok (.iload_n 1, 1) := by decide +kernel
theorem d_Mo_isLeft_40 : decode b_Mo_isLeft 40 = .ok (.iload_n 3, 1) := by decide +kernel
theorem d_Mo_isLeft_41 : decode b_Mo_isLeft 41 = .ok (.invokevirtual 132, 3) := by decide +kernel
theorem d_Mo_isLeft_44 : decode b_Mo_isLeft 44 = .ok (.iconst 1, 1) := by decide +kernel
theorem d_Mo_isLeft_45 : decode b_Mo_isLeft 45 = .ok (.if_icmp .le 7, 3) := by decide +kernel
theorem d_Mo_isLeft_48 : decode b_Mo_isLeft 48 = .ok (.iconst 1, 1) := by decide +kernel
theorem d_Mo_isLeft_49 : decode b_Mo_isLeft 49 = .ok (.goto 4, 3) := by decide +kernel
theorem d_Mo_isLeft_52 : decode b_Mo_isLeft 52 = .ok (.iconst 0, 1) := by decide +kernel
theorem d_Mo_isLeft_53 : decode b_Mo_isLeft 53 = .ok (.ireturn, 1) := by decide +kernel
def f_Mo_isLeft (h : Hp) (l0 : Nat) (l1 : Int32) (l2 : Int32) (l3 : Int32) : Option Int32 :=
  ck h 9 l0 (
    (gR h 9 l0 11).bind fun t1 =>
    (gA h false t1 (((12 : Int32) * l1) + l2)).bind fun t2 =>
    (
      if (0 : Int32) ≤ t2 then (
        some (0 : Int32)
      ) else (
        (gR h 9 l0 13).bind fun t4 =>
        (gA h false t4 (((12 : Int32) * l1) + l3)).bind fun t5 =>
        if (0 : Int32) ≤ t5 then (
          some (0 : Int32)
        ) else (
          (f_Mo_contentAt h l0 (0 : Int32) l2).bind fun t6 =>
          if t6 ≤ (1 : Int32) then (
            some (0 : Int32)
          ) else (
            (f_Mo_contentAt h l0 l1 l3).bind fun t7 =>
            if t7 ≤ (1 : Int32) then (
              some (0 : Int32)
            ) else (
              some (1 : Int32)
            )
          )
        )
      )
    ).bind fun t3 =>
    rz t3
  )
theorem o_Mo_isLeft {h : Hp} {l0 : Nat} {l1 : Int32} {l2 : Int32} {l3 : Int32} {r : Int32} (hM : f_Mo_isLeft h l0 l1 l2 l3 = some r) : isO h 9 l0 = true := by
  unfold f_Mo_isLeft at hM
  exact (ck_some hM).1
set_option maxHeartbeats 4000000 in
set_option maxRecDepth 100000 in
theorem t_Mo_isLeft {h : Hp} {l0 : Nat} {l1 : Int32} {l2 : Int32} {l3 : Int32} {r : Int32} (C : Cx base D cI cZ b_Mo_isLeft 4 "MovedFoldersModel" "isLeft" (some .boolean) p s m args meth c) (hM : f_Mo_isLeft h l0 l1 l2 l3 = some r) (H : Heap) (locs : List Loc) (ls : Array Slot) (hS : RS base D cI cZ s H locs h) (hl : lv_has ls 4 [(0, .ref (base + l0)), (1, .int l1), (2, .int l2), (3, .int l3)]) : Wg l base D cI cZ 1 22 0 0 h (some (.int r)) p e s m args below meth c H locs 0 0 (F0 m 0 ls []) := by
  have hx := C.1
  have hb := C.2.1
  unfold f_Mo_isLeft at hM
  replace hM := (ck_some hM).2
  refine lv_aload_n hx hb d_Mo_isLeft_0 rfl (lv_at hl 0 rfl) ?_
  obtain ⟨t1, et1, hM⟩ := bS hM
  refine r_getR C hS fl_Mo_26 et1 d_Mo_isLeft_1 ?_
  refine lv_bipush (v := (12 : Int32)) hx hb d_Mo_isLeft_4 (by decide) ?_
  refine lv_iload_n hx hb d_Mo_isLeft_6 rfl (lv_at hl 1 rfl) ?_
  refine lv_imul hx hb d_Mo_isLeft_7 ?_
  refine lv_iload_n hx hb d_Mo_isLeft_8 rfl (lv_at hl 2 rfl) ?_
  refine lv_iadd hx hb d_Mo_isLeft_9 ?_
  obtain ⟨t2, et2, hM⟩ := bS hM
  refine r_iald C hS et2 d_Mo_isLeft_10 ?_
  obtain ⟨t3, et3, hM⟩ := bS hM
  have kJ53_1 : ∀ (H : Heap) (locs : List Loc) (ls : Array Slot), RS base D cI cZ s H locs h → lv_has ls 4 [] → Wg l base D cI cZ 1 22 0 0 h (some (.int r)) p e s m args below meth c H locs 0 0 (F0 m 53 ls [.int t3]) := by
    intro H locs ls hS hl
    exact r_zret C hS hM d_Mo_isLeft_53
  refine lv_if_ge (tgt := 52) hx hb d_Mo_isLeft_11 (by decide) (fun c11_2 => ?_) (fun c11_2 => ?_)
  · rw [if_pos c11_2] at et3
    refine lv_iconst (v := (0 : Int32)) hx hb d_Mo_isLeft_52 (by decide) ?_
    obtain rfl := Option.some.inj et3
    exact kJ53_1 _ _ _ hS (lv_sub hl [] rfl)
  · rw [if_neg c11_2] at et3
    refine lv_aload_n hx hb d_Mo_isLeft_14 rfl (lv_at hl 0 rfl) ?_
    obtain ⟨t4, et4, et3⟩ := bS et3
    refine r_getR C hS fl_Mo_32 et4 d_Mo_isLeft_15 ?_
    refine lv_bipush (v := (12 : Int32)) hx hb d_Mo_isLeft_18 (by decide) ?_
    refine lv_iload_n hx hb d_Mo_isLeft_20 rfl (lv_at hl 1 rfl) ?_
    refine lv_imul hx hb d_Mo_isLeft_21 ?_
    refine lv_iload_n hx hb d_Mo_isLeft_22 rfl (lv_at hl 3 rfl) ?_
    refine lv_iadd hx hb d_Mo_isLeft_23 ?_
    obtain ⟨t5, et5, et3⟩ := bS et3
    refine r_iald C hS et5 d_Mo_isLeft_24 ?_
    refine lv_if_ge (tgt := 52) hx hb d_Mo_isLeft_25 (by decide) (fun c25_3 => ?_) (fun c25_3 => ?_)
    · rw [if_pos c25_3] at et3
      refine lv_iconst (v := (0 : Int32)) hx hb d_Mo_isLeft_52 (by decide) ?_
      obtain rfl := Option.some.inj et3
      exact kJ53_1 _ _ _ hS (lv_sub hl [] rfl)
    · rw [if_neg c25_3] at et3
      refine lv_aload_n hx hb d_Mo_isLeft_28 rfl (lv_at hl 0 rfl) ?_
      refine lv_iconst (v := (0 : Int32)) hx hb d_Mo_isLeft_29 (by decide) ?_
      refine lv_iload_n hx hb d_Mo_isLeft_30 rfl (lv_at hl 2 rfl) ?_
      obtain ⟨t6, et6, et3⟩ := bS et3
      refine r_callVi (x := t6) C hS cv_Mo_132 (c_Mo_contentAt l base D cI cZ h l0 (0 : Int32) l2 et6) (o_Mo_contentAt et6) (rest := []) rfl hl.1 rfl (Nat.le_of_ble_eq_true rfl) ⟨(Nat.le_of_ble_eq_true rfl), (Nat.le_of_ble_eq_true rfl)⟩ ⟨(Nat.le_of_ble_eq_true rfl), (Nat.le_of_ble_eq_true rfl)⟩ d_Mo_isLeft_31 (fun H locs hS => ?_)
      refine lv_iconst (v := (1 : Int32)) hx hb d_Mo_isLeft_34 (by decide) ?_
      refine lv_icmp_le (tgt := 52) hx hb d_Mo_isLeft_35 (by decide) (fun c35_4 => ?_) (fun c35_4 => ?_)
      · rw [if_pos c35_4] at et3
        refine lv_iconst (v := (0 : Int32)) hx hb d_Mo_isLeft_52 (by decide) ?_
        obtain rfl := Option.some.inj et3
        exact kJ53_1 _ _ _ hS (lv_sub hl [] rfl)
      · rw [if_neg c35_4] at et3
        refine lv_aload_n hx hb d_Mo_isLeft_38 rfl (lv_at hl 0 rfl) ?_
        refine lv_iload_n hx hb d_Mo_isLeft_39 rfl (lv_at hl 1 rfl) ?_
        refine lv_iload_n hx hb d_Mo_isLeft_40 rfl (lv_at hl 3 rfl) ?_
        obtain ⟨t7, et7, et3⟩ := bS et3
        refine r_callVi (x := t7) C hS cv_Mo_132 (c_Mo_contentAt l base D cI cZ h l0 l1 l3 et7) (o_Mo_contentAt et7) (rest := []) rfl hl.1 rfl (Nat.le_of_ble_eq_true rfl) ⟨(Nat.le_of_ble_eq_true rfl), (Nat.le_of_ble_eq_true rfl)⟩ ⟨(Nat.le_of_ble_eq_true rfl), (Nat.le_of_ble_eq_true rfl)⟩ d_Mo_isLeft_41 (fun H locs hS => ?_)
        refine lv_iconst (v := (1 : Int32)) hx hb d_Mo_isLeft_44 (by decide) ?_
        refine lv_icmp_le (tgt := 52) hx hb d_Mo_isLeft_45 (by decide) (fun c45_5 => ?_) (fun c45_5 => ?_)
        · rw [if_pos c45_5] at et3
          refine lv_iconst (v := (0 : Int32)) hx hb d_Mo_isLeft_52 (by decide) ?_
          obtain rfl := Option.some.inj et3
          exact kJ53_1 _ _ _ hS (lv_sub hl [] rfl)
        · rw [if_neg c45_5] at et3
          refine lv_iconst (v := (1 : Int32)) hx hb d_Mo_isLeft_48 (by decide) ?_
          refine lv_goto (tgt := 53) hx hb d_Mo_isLeft_49 (by decide) ?_
          obtain rfl := Option.some.inj et3
          exact kJ53_1 _ _ _ hS (lv_sub hl [] rfl)
theorem c_Mo_isLeft (l : Launch) (base : Nat) (D : va_G) (cI cZ : ClassId) (h : Hp) (l0 : Nat) (l1 : Int32) (l2 : Int32) (l3 : Int32) {r : Int32} (hM : f_Mo_isLeft h l0 l1 l2 l3 = some r) : Ct l base D cI cZ y_Mo_isLeft b_Mo_isLeft 4 (some .boolean) 1 22 0 0 h [.ref (base + l0), .int l1, .int l2, .int l3] h (some (.int r)) :=
  ct_of (by decide) (Nat.le_of_ble_eq_true rfl) (fun p e s m below meth c ls C hS hl => t_Mo_isLeft C hM _ _ _ hS hl)
theorem d_Mo_closeness_0 : decode b_Mo_closeness 0 = .ok (.aload_n 0, 1) := by decide +kernel
theorem d_Mo_closeness_1 : decode b_Mo_closeness 1 = .ok (.iload_n 1, 1) := by decide +kernel
theorem d_Mo_closeness_2 : decode b_Mo_closeness 2 = .ok (.iload_n 2, 1) := by decide +kernel
theorem d_Mo_closeness_3 : decode b_Mo_closeness 3 = .ok (.iload_n 3, 1) := by decide +kernel
theorem d_Mo_closeness_4 : decode b_Mo_closeness 4 = .ok (.invokevirtual 155, 3) := by decide +kernel
theorem d_Mo_closeness_7 : decode b_Mo_closeness 7 = .ok (.ifCond .ne 5, 3) := by decide +kernel
theorem d_Mo_closeness_10 : decode b_Mo_closeness 10 = .ok (.iconst 0, 1) := by decide +kernel
theorem d_Mo_closeness_11 : decode b_Mo_closeness 11 = .ok (.ireturn, 1) := by decide +kernel
theorem d_Mo_closeness_12 : decode b_Mo_closeness 12 = .ok (.aload_n 0, 1) := by decide +kernel
theorem d_Mo_closeness_13 : decode b_Mo_closeness 13 = .ok (.iconst 0, 1) := by decide +kernel
theorem d_Mo_closeness_14 : decode b_Mo_closeness 14 = .ok (.iload_n 2, 1) := by decide +kernel
theorem d_Mo_closeness_15 : decode b_Mo_closeness 15 = .ok (.invokevirtual 132, 3) := by decide +kernel
theorem d_Mo_closeness_18 : decode b_Mo_closeness 18 = .ok (.aload_n 0, 1) := by decide +kernel
theorem d_Mo_closeness_19 : decode b_Mo_closeness 19 = .ok (.iload_n 1, 1) := by decide +kernel
theorem d_Mo_closeness_20 : decode b_Mo_closeness 20 = .ok (.iload_n 3, 1) := by decide +kernel
theorem d_Mo_closeness_21 : decode b_Mo_closeness 21 = .ok (.invokevirtual 132, 3) := by decide +kernel
theorem d_Mo_closeness_24 : decode b_Mo_closeness 24 = .ok (.invokestatic 152, 3) := by decide +kernel
theorem d_Mo_closeness_27 : decode b_Mo_closeness 27 = .ok (.istore 5, 2) := by decide +kernel
theorem d_Mo_closeness_29 : decode b_Mo_closeness 29 = .ok (.iload 4, 2) := by decide +kernel
theorem d_Mo_closeness_31 : decode b_Mo_closeness 31 = .ok (.iconst 1, 1) := by decide +kernel
theorem d_Mo_closeness_32 : decode b_Mo_closeness 32 = .ok (.if_icmp .ne 26, 3) := by decide +kernel
theorem d_Mo_closeness_35 : decode b_Mo_closeness 35 = .ok (.aload_n 0, 1) := by decide +kernel
theorem d_Mo_closeness_36 : decode b_Mo_closeness 36 = .ok (.iconst 0, 1) := by decide +kernel
theorem d_Mo_closeness_37 : decode b_Mo_closeness 37 = .ok (.iload_n 2, 1) := by decide +kernel
theorem d_Mo_closeness_38 : decode b_Mo_closeness 38 = .ok (.invokevirtual 132, 3) := by decide +kernel
theorem d_Mo_closeness_41 : decode b_Mo_closeness 41 = .ok (.aload_n 0, 1) := by decide +kernel
theorem d_Mo_closeness_42 : decode b_Mo_closeness 42 = .ok (.iload_n 1, 1) := by decide +kernel
theorem d_Mo_closeness_43 : decode b_Mo_closeness 43 = .ok (.iload_n 3, 1) := by decide +kernel
theorem d_Mo_closeness_44 : decode b_Mo_closeness 44 = .ok (.invokevirtual 132, 3) := by decide +kernel
theorem d_Mo_closeness_47 : decode b_Mo_closeness 47 = .ok (.if_icmp .ne 7, 3) := by decide +kernel
theorem d_Mo_closeness_50 : decode b_Mo_closeness 50 = .ok (.iconst 1, 1) := by decide +kernel
theorem d_Mo_closeness_51 : decode b_Mo_closeness 51 = .ok (.goto 21, 3) := by decide +kernel
theorem d_Mo_closeness_54 : decode b_Mo_closeness 54 = .ok (.iconst 0, 1) := by decide +kernel
theorem d_Mo_closeness_55 : decode b_Mo_closeness 55 = .ok (.goto 17, 3) := by decide +kernel
theorem d_Mo_closeness_58 : decode b_Mo_closeness 58 = .ok (.iload 5, 2) := by decide +kernel
theorem d_Mo_closeness_60 : decode b_Mo_closeness 60 = .ok (.aload_n 0, 1) := by decide +kernel
theorem d_Mo_closeness_61 : decode b_Mo_closeness 61 = .ok (.getfield 19, 3) := by decide +kernel
theorem d_Mo_closeness_64 : decode b_Mo_closeness 64 = .ok (.if_icmp .lt 7, 3) := by decide +kernel
theorem d_Mo_closeness_67 : decode b_Mo_closeness 67 = .ok (.iconst 1, 1) := by decide +kernel
theorem d_Mo_closeness_68 : decode b_Mo_closeness 68 = .ok (.goto 4, 3) := by decide +kernel
theorem d_Mo_closeness_71 : decode b_Mo_closeness 71 = .ok (.iconst 0, 1) := by decide +kernel
theorem d_Mo_closeness_72 : decode b_Mo_closeness 72 = .ok (.istore 6, 2) := by decide +kernel
theorem d_Mo_closeness_74 : decode b_Mo_closeness 74 = .ok (.iload 6, 2) := by decide +kernel
theorem d_Mo_closeness_76 : decode b_Mo_closeness 76 = .ok (.ifCond .eq 31, 3) := by decide +kernel
theorem d_Mo_closeness_79 : decode b_Mo_closeness 79 = .ok (.iconst 2, 1) := by decide +kernel
theorem d_Mo_closeness_80 : decode b_Mo_closeness 80 = .ok (.iload 5, 2) := by decide +kernel
theorem d_Mo_closeness_82 : decode b_Mo_closeness 82 = .ok (.imul, 1) := by decide +kernel
theorem d_Mo_closeness_83 : decode b_Mo_closeness 83 = .ok (.aload_n 0, 1) := by decide +kernel
theorem d_Mo_closeness_84 : decode b_Mo_closeness 84 = .ok (.iconst 0, 1) := by decide +kernel
theorem d_Mo_closeness_85 : decode b_Mo_closeness 85 = .ok (.iload_n 2, 1) := by decide +kernel
theorem d_Mo_closeness_86 : decode b_Mo_closeness 86 = .ok (.invokevirtual 159, 3) := by decide +kernel
theorem d_Mo_closeness_89 : decode b_Mo_closeness 89 = .ok (.aload_n 0, 1) := by decide +kernel
theorem d_Mo_closeness_90 : decode b_Mo_closeness 90 = .ok (.iload_n 1, 1) := by decide +kernel
theorem d_Mo_closeness_91 : decode b_Mo_closeness 91 = .ok (.iload_n 3, 1) := by decide +kernel
theorem d_Mo_closeness_92 : decode b_Mo_closeness 92 = .ok (.invokevirtual 159, 3) := by decide +kernel
theorem d_Mo_closeness_95 : decode b_Mo_closeness 95 = .ok (.if_icmp .ne 7, 3) := by decide +kernel
theorem d_Mo_closeness_98 : decode b_Mo_closeness 98 = .ok (.iconst 1, 1) := by decide +kernel
theorem d_Mo_closeness_99 : decode b_Mo_closeness 99 = .ok (.goto 4, 3) := by decide +kernel
theorem d_Mo_closeness_102 : decode b_Mo_closeness 102 = .ok (.iconst 0, 1) := by decide +kernel
theorem d_Mo_closeness_103 : decode b_Mo_closeness 103 = .ok (.iadd, 1) := by decide +kernel
theorem d_Mo_closeness_104 : decode b_Mo_closeness 104 = .ok (.goto 4, 3) := by decide +kernel
theorem d_Mo_closeness_107 : decode b_Mo_closeness 107 = .ok (.iconst 0, 1) := by decide +kernel
theorem d_Mo_closeness_108 : decode b_Mo_closeness 108 = .ok (.ireturn, 1) := by decide +kernel
def f_Mo_closeness (h : Hp) (l0 : Nat) (l1 : Int32) (l2 : Int32) (l3 : Int32) (l4 : Int32) : Option Int32 :=
  ck h 9 l0 (
    (f_Mo_isLeft h l0 l1 l2 l3).bind fun t1 =>
    if t1 = (0 : Int32) then (
      some (0 : Int32)
    ) else (
      (f_Mo_contentAt h l0 (0 : Int32) l2).bind fun t2 =>
      (f_Mo_contentAt h l0 l1 l3).bind fun t3 =>
      (f_Mo_alikeOf t2 t3).bind fun t4 =>
      (
        if l4 = (1 : Int32) then (
          (f_Mo_contentAt h l0 (0 : Int32) l2).bind fun t7 =>
          (f_Mo_contentAt h l0 l1 l3).bind fun t8 =>
          if t7 = t8 then (
            some (1 : Int32)
          ) else (
            some (0 : Int32)
          )
        ) else (
          (gI h 9 l0 3).bind fun t6 =>
          if t4 < t6 then (
            some (0 : Int32)
          ) else (
            some (1 : Int32)
          )
        )
      ).bind fun t5 =>
      (
        if t5 = (0 : Int32) then (
          some (0 : Int32)
        ) else (
          (f_Mo_nameAt h l0 (0 : Int32) l2).bind fun t10 =>
          (f_Mo_nameAt h l0 l1 l3).bind fun t11 =>
          some (((2 : Int32) * t4) + (if t10 = t11 then ((1 : Int32)) else ((0 : Int32))))
        )
      ).bind fun t9 =>
      some t9
    )
  )
theorem o_Mo_closeness {h : Hp} {l0 : Nat} {l1 : Int32} {l2 : Int32} {l3 : Int32} {l4 : Int32} {r : Int32} (hM : f_Mo_closeness h l0 l1 l2 l3 l4 = some r) : isO h 9 l0 = true := by
  unfold f_Mo_closeness at hM
  exact (ck_some hM).1
set_option maxHeartbeats 4000000 in
set_option maxRecDepth 100000 in
theorem t_Mo_closeness {h : Hp} {l0 : Nat} {l1 : Int32} {l2 : Int32} {l3 : Int32} {l4 : Int32} {r : Int32} (C : Cx base D cI cZ b_Mo_closeness 7 "MovedFoldersModel" "closeness" (some .int) p s m args meth c) (hM : f_Mo_closeness h l0 l1 l2 l3 l4 = some r) (H : Heap) (locs : List Loc) (ls : Array Slot) (hS : RS base D cI cZ s H locs h) (hl : lv_has ls 7 [(0, .ref (base + l0)), (1, .int l1), (2, .int l2), (3, .int l3), (4, .int l4)]) : Wg l base D cI cZ 2 47 0 0 h (some (.int r)) p e s m args below meth c H locs 0 0 (F0 m 0 ls []) := by
  have hx := C.1
  have hb := C.2.1
  unfold f_Mo_closeness at hM
  replace hM := (ck_some hM).2
  refine lv_aload_n hx hb d_Mo_closeness_0 rfl (lv_at hl 0 rfl) ?_
  refine lv_iload_n hx hb d_Mo_closeness_1 rfl (lv_at hl 1 rfl) ?_
  refine lv_iload_n hx hb d_Mo_closeness_2 rfl (lv_at hl 2 rfl) ?_
  refine lv_iload_n hx hb d_Mo_closeness_3 rfl (lv_at hl 3 rfl) ?_
  obtain ⟨t1, et1, hM⟩ := bS hM
  refine r_callVi (x := t1) C hS cv_Mo_155 (c_Mo_isLeft l base D cI cZ h l0 l1 l2 l3 et1) (o_Mo_isLeft et1) (rest := []) rfl hl.1 rfl (Nat.le_of_ble_eq_true rfl) ⟨(Nat.le_of_ble_eq_true rfl), (Nat.le_of_ble_eq_true rfl)⟩ ⟨(Nat.le_of_ble_eq_true rfl), (Nat.le_of_ble_eq_true rfl)⟩ d_Mo_closeness_4 (fun H locs hS => ?_)
  refine lv_if_ne (tgt := 12) hx hb d_Mo_closeness_7 (by decide) (fun c7_1 => ?_) (fun c7_1 => ?_)
  · rw [if_neg c7_1] at hM
    refine lv_aload_n hx hb d_Mo_closeness_12 rfl (lv_at hl 0 rfl) ?_
    refine lv_iconst (v := (0 : Int32)) hx hb d_Mo_closeness_13 (by decide) ?_
    refine lv_iload_n hx hb d_Mo_closeness_14 rfl (lv_at hl 2 rfl) ?_
    obtain ⟨t2, et2, hM⟩ := bS hM
    refine r_callVi (x := t2) C hS cv_Mo_132 (c_Mo_contentAt l base D cI cZ h l0 (0 : Int32) l2 et2) (o_Mo_contentAt et2) (rest := []) rfl hl.1 rfl (Nat.le_of_ble_eq_true rfl) ⟨(Nat.le_of_ble_eq_true rfl), (Nat.le_of_ble_eq_true rfl)⟩ ⟨(Nat.le_of_ble_eq_true rfl), (Nat.le_of_ble_eq_true rfl)⟩ d_Mo_closeness_15 (fun H locs hS => ?_)
    refine lv_aload_n hx hb d_Mo_closeness_18 rfl (lv_at hl 0 rfl) ?_
    refine lv_iload_n hx hb d_Mo_closeness_19 rfl (lv_at hl 1 rfl) ?_
    refine lv_iload_n hx hb d_Mo_closeness_20 rfl (lv_at hl 3 rfl) ?_
    obtain ⟨t3, et3, hM⟩ := bS hM
    refine r_callVi (x := t3) C hS cv_Mo_132 (c_Mo_contentAt l base D cI cZ h l0 l1 l3 et3) (o_Mo_contentAt et3) (rest := [.int t2]) rfl hl.1 rfl (Nat.le_of_ble_eq_true rfl) ⟨(Nat.le_of_ble_eq_true rfl), (Nat.le_of_ble_eq_true rfl)⟩ ⟨(Nat.le_of_ble_eq_true rfl), (Nat.le_of_ble_eq_true rfl)⟩ d_Mo_closeness_21 (fun H locs hS => ?_)
    obtain ⟨t4, et4, hM⟩ := bS hM
    refine r_callSi (x := t4) C hS cs_Mo_152 (c_Mo_alikeOf l base D cI cZ h t2 t3 et4) (rest := []) rfl hl.1 rfl (Nat.le_of_ble_eq_true rfl) ⟨(Nat.le_of_ble_eq_true rfl), (Nat.le_of_ble_eq_true rfl)⟩ ⟨(Nat.le_of_ble_eq_true rfl), (Nat.le_of_ble_eq_true rfl)⟩ d_Mo_closeness_24 (fun H locs hS => ?_)
    refine lv_istore (lv' := [(5, .int t4), (0, .ref (base + l0)), (1, .int l1), (2, .int l2), (3, .int l3), (4, .int l4)]) hx hb d_Mo_closeness_27 hl (by decide) rfl (fun ls hl => ?_)
    refine lv_iload hx hb d_Mo_closeness_29 (lv_at hl 5 rfl) ?_
    refine lv_iconst (v := (1 : Int32)) hx hb d_Mo_closeness_31 (by decide) ?_
    obtain ⟨t5, et5, hM⟩ := bS hM
    have kJ72_2 : ∀ (H : Heap) (locs : List Loc) (ls : Array Slot), RS base D cI cZ s H locs h → lv_has ls 7 [(0, .ref (base + l0)), (1, .int l1), (2, .int l2), (3, .int l3), (5, .int t4)] → Wg l base D cI cZ 2 47 0 0 h (some (.int r)) p e s m args below meth c H locs 0 0 (F0 m 72 ls [.int t5]) := by
      intro H locs ls hS hl
      refine lv_istore (lv' := [(6, .int t5), (0, .ref (base + l0)), (1, .int l1), (2, .int l2), (3, .int l3), (5, .int t4)]) hx hb d_Mo_closeness_72 hl (by decide) rfl (fun ls hl => ?_)
      refine lv_iload hx hb d_Mo_closeness_74 (lv_at hl 0 rfl) ?_
      obtain ⟨t9, et9, hM⟩ := bS hM
      have kJ108_6 : ∀ (H : Heap) (locs : List Loc) (ls : Array Slot), RS base D cI cZ s H locs h → lv_has ls 7 [] → Wg l base D cI cZ 2 47 0 0 h (some (.int r)) p e s m args below meth c H locs 0 0 (F0 m 108 ls [.int t9]) := by
        intro H locs ls hS hl
        obtain rfl := Option.some.inj hM
        exact r_iret C hS d_Mo_closeness_108
      refine lv_if_eq (tgt := 107) hx hb d_Mo_closeness_76 (by decide) (fun c76_7 => ?_) (fun c76_7 => ?_)
      · rw [if_pos c76_7] at et9
        refine lv_iconst (v := (0 : Int32)) hx hb d_Mo_closeness_107 (by decide) ?_
        obtain rfl := Option.some.inj et9
        exact kJ108_6 _ _ _ hS (lv_sub hl [] rfl)
      · rw [if_neg c76_7] at et9
        refine lv_iconst (v := (2 : Int32)) hx hb d_Mo_closeness_79 (by decide) ?_
        refine lv_iload hx hb d_Mo_closeness_80 (lv_at hl 5 rfl) ?_
        refine lv_imul hx hb d_Mo_closeness_82 ?_
        refine lv_aload_n hx hb d_Mo_closeness_83 rfl (lv_at hl 1 rfl) ?_
        refine lv_iconst (v := (0 : Int32)) hx hb d_Mo_closeness_84 (by decide) ?_
        refine lv_iload_n hx hb d_Mo_closeness_85 rfl (lv_at hl 3 rfl) ?_
        obtain ⟨t10, et10, et9⟩ := bS et9
        refine r_callVi (x := t10) C hS cv_Mo_159 (c_Mo_nameAt l base D cI cZ h l0 (0 : Int32) l2 et10) (o_Mo_nameAt et10) (rest := [.int ((2 : Int32) * t4)]) rfl hl.1 rfl (Nat.le_of_ble_eq_true rfl) ⟨(Nat.le_of_ble_eq_true rfl), (Nat.le_of_ble_eq_true rfl)⟩ ⟨(Nat.le_of_ble_eq_true rfl), (Nat.le_of_ble_eq_true rfl)⟩ d_Mo_closeness_86 (fun H locs hS => ?_)
        refine lv_aload_n hx hb d_Mo_closeness_89 rfl (lv_at hl 1 rfl) ?_
        refine lv_iload_n hx hb d_Mo_closeness_90 rfl (lv_at hl 2 rfl) ?_
        refine lv_iload_n hx hb d_Mo_closeness_91 rfl (lv_at hl 4 rfl) ?_
        obtain ⟨t11, et11, et9⟩ := bS et9
        refine r_callVi (x := t11) C hS cv_Mo_159 (c_Mo_nameAt l base D cI cZ h l0 l1 l3 et11) (o_Mo_nameAt et11) (rest := [.int t10, .int ((2 : Int32) * t4)]) rfl hl.1 rfl (Nat.le_of_ble_eq_true rfl) ⟨(Nat.le_of_ble_eq_true rfl), (Nat.le_of_ble_eq_true rfl)⟩ ⟨(Nat.le_of_ble_eq_true rfl), (Nat.le_of_ble_eq_true rfl)⟩ d_Mo_closeness_92 (fun H locs hS => ?_)
        have kJ103_8 : ∀ (H : Heap) (locs : List Loc) (ls : Array Slot), RS base D cI cZ s H locs h → lv_has ls 7 [] → Wg l base D cI cZ 2 47 0 0 h (some (.int r)) p e s m args below meth c H locs 0 0 (F0 m 103 ls [.int (if t10 = t11 then ((1 : Int32)) else ((0 : Int32))), .int ((2 : Int32) * t4)]) := by
          intro H locs ls hS hl
          refine lv_iadd hx hb d_Mo_closeness_103 ?_
          refine lv_goto (tgt := 108) hx hb d_Mo_closeness_104 (by decide) ?_
          obtain rfl := Option.some.inj et9
          exact kJ108_6 _ _ _ hS (lv_sub hl [] rfl)
        refine lv_icmp_ne (tgt := 102) hx hb d_Mo_closeness_95 (by decide) (fun c95_9 => ?_) (fun c95_9 => ?_)
        · rw [if_neg c95_9] at kJ103_8
          refine lv_iconst (v := (0 : Int32)) hx hb d_Mo_closeness_102 (by decide) ?_
          exact kJ103_8 _ _ _ hS (lv_sub hl [] rfl)
        · rw [if_pos c95_9] at kJ103_8
          refine lv_iconst (v := (1 : Int32)) hx hb d_Mo_closeness_98 (by decide) ?_
          refine lv_goto (tgt := 103) hx hb d_Mo_closeness_99 (by decide) ?_
          exact kJ103_8 _ _ _ hS (lv_sub hl [] rfl)
    refine lv_icmp_ne (tgt := 58) hx hb d_Mo_closeness_32 (by decide) (fun c32_3 => ?_) (fun c32_3 => ?_)
    · rw [if_neg c32_3] at et5
      refine lv_iload hx hb d_Mo_closeness_58 (lv_at hl 0 rfl) ?_
      refine lv_aload_n hx hb d_Mo_closeness_60 rfl (lv_at hl 1 rfl) ?_
      obtain ⟨t6, et6, et5⟩ := bS et5
      refine r_getI C hS fl_Mo_19 et6 d_Mo_closeness_61 ?_
      refine lv_icmp_lt (tgt := 71) hx hb d_Mo_closeness_64 (by decide) (fun c64_4 => ?_) (fun c64_4 => ?_)
      · rw [if_pos c64_4] at et5
        refine lv_iconst (v := (0 : Int32)) hx hb d_Mo_closeness_71 (by decide) ?_
        obtain rfl := Option.some.inj et5
        exact kJ72_2 _ _ _ hS (lv_sub hl [1, 2, 3, 4, 0] rfl)
      · rw [if_neg c64_4] at et5
        refine lv_iconst (v := (1 : Int32)) hx hb d_Mo_closeness_67 (by decide) ?_
        refine lv_goto (tgt := 72) hx hb d_Mo_closeness_68 (by decide) ?_
        obtain rfl := Option.some.inj et5
        exact kJ72_2 _ _ _ hS (lv_sub hl [1, 2, 3, 4, 0] rfl)
    · rw [if_pos c32_3] at et5
      refine lv_aload_n hx hb d_Mo_closeness_35 rfl (lv_at hl 1 rfl) ?_
      refine lv_iconst (v := (0 : Int32)) hx hb d_Mo_closeness_36 (by decide) ?_
      refine lv_iload_n hx hb d_Mo_closeness_37 rfl (lv_at hl 3 rfl) ?_
      obtain ⟨t7, et7, et5⟩ := bS et5
      refine r_callVi (x := t7) C hS cv_Mo_132 (c_Mo_contentAt l base D cI cZ h l0 (0 : Int32) l2 et7) (o_Mo_contentAt et7) (rest := []) rfl hl.1 rfl (Nat.le_of_ble_eq_true rfl) ⟨(Nat.le_of_ble_eq_true rfl), (Nat.le_of_ble_eq_true rfl)⟩ ⟨(Nat.le_of_ble_eq_true rfl), (Nat.le_of_ble_eq_true rfl)⟩ d_Mo_closeness_38 (fun H locs hS => ?_)
      refine lv_aload_n hx hb d_Mo_closeness_41 rfl (lv_at hl 1 rfl) ?_
      refine lv_iload_n hx hb d_Mo_closeness_42 rfl (lv_at hl 2 rfl) ?_
      refine lv_iload_n hx hb d_Mo_closeness_43 rfl (lv_at hl 4 rfl) ?_
      obtain ⟨t8, et8, et5⟩ := bS et5
      refine r_callVi (x := t8) C hS cv_Mo_132 (c_Mo_contentAt l base D cI cZ h l0 l1 l3 et8) (o_Mo_contentAt et8) (rest := [.int t7]) rfl hl.1 rfl (Nat.le_of_ble_eq_true rfl) ⟨(Nat.le_of_ble_eq_true rfl), (Nat.le_of_ble_eq_true rfl)⟩ ⟨(Nat.le_of_ble_eq_true rfl), (Nat.le_of_ble_eq_true rfl)⟩ d_Mo_closeness_44 (fun H locs hS => ?_)
      refine lv_icmp_ne (tgt := 54) hx hb d_Mo_closeness_47 (by decide) (fun c47_5 => ?_) (fun c47_5 => ?_)
      · rw [if_neg c47_5] at et5
        refine lv_iconst (v := (0 : Int32)) hx hb d_Mo_closeness_54 (by decide) ?_
        refine lv_goto (tgt := 72) hx hb d_Mo_closeness_55 (by decide) ?_
        obtain rfl := Option.some.inj et5
        exact kJ72_2 _ _ _ hS (lv_sub hl [1, 2, 3, 4, 0] rfl)
      · rw [if_pos c47_5] at et5
        refine lv_iconst (v := (1 : Int32)) hx hb d_Mo_closeness_50 (by decide) ?_
        refine lv_goto (tgt := 72) hx hb d_Mo_closeness_51 (by decide) ?_
        obtain rfl := Option.some.inj et5
        exact kJ72_2 _ _ _ hS (lv_sub hl [1, 2, 3, 4, 0] rfl)
  · rw [if_pos c7_1] at hM
    refine lv_iconst (v := (0 : Int32)) hx hb d_Mo_closeness_10 (by decide) ?_
    obtain rfl := Option.some.inj hM
    exact r_iret C hS d_Mo_closeness_11
theorem c_Mo_closeness (l : Launch) (base : Nat) (D : va_G) (cI cZ : ClassId) (h : Hp) (l0 : Nat) (l1 : Int32) (l2 : Int32) (l3 : Int32) (l4 : Int32) {r : Int32} (hM : f_Mo_closeness h l0 l1 l2 l3 l4 = some r) : Ct l base D cI cZ y_Mo_closeness b_Mo_closeness 7 (some .int) 2 47 0 0 h [.ref (base + l0), .int l1, .int l2, .int l3, .int l4] h (some (.int r)) :=
  ct_of (by decide) (Nat.le_of_ble_eq_true rfl) (fun p e s m below meth c ls C hS hl => t_Mo_closeness C hM _ _ _ hS hl)
theorem d_Mo_isJoined_0 : decode b_Mo_isJoined 0 = .ok (.iconst 0, 1) := by decide +kernel
theorem d_Mo_isJoined_1 : decode b_Mo_isJoined 1 = .ok (.istore_n 3, 1) := by decide +kernel
theorem d_Mo_isJoined_2 : decode b_Mo_isJoined 2 = .ok (.iconst 0, 1) := by decide +kernel
theorem d_Mo_isJoined_3 : decode b_Mo_isJoined 3 = .ok (.istore 4, 2) := by decide +kernel
theorem d_Mo_isJoined_5 : decode b_Mo_isJoined 5 = .ok (.iconst 0, 1) := by decide +kernel
theorem d_Mo_isJoined_6 : decode b_Mo_isJoined 6 = .ok (.istore 5, 2) := by decide +kernel
theorem d_Mo_isJoined_8 : decode b_Mo_isJoined 8 = .ok (.iconst 0, 1) := by decide +kernel
theorem d_Mo_isJoined_9 : decode b_Mo_isJoined 9 = .ok (.istore 6, 2) := by decide +kernel
theorem d_Mo_isJoined_11 : decode b_Mo_isJoined 11 = .ok (.iload 6, 2) := by decide +kernel
theorem d_Mo_isJoined_13 : decode b_Mo_isJoined 13 = .ok (.aload_n 0, 1) := by decide +kernel
theorem d_Mo_isJoined_14 : decode b_Mo_isJoined 14 = .ok (.getfield 16, 3) := by decide +kernel
theorem d_Mo_isJoined_17 : decode b_Mo_isJoined 17 = .ok (.iconst 0, 1) := by decide +kernel
theorem d_Mo_isJoined_18 : decode b_Mo_isJoined 18 = .ok (.iaload, 1) := by decide +kernel
theorem d_Mo_isJoined_19 : decode b_Mo_isJoined 19 = .ok (.if_icmp .ge 58, 3) := by decide +kernel
theorem d_Mo_isJoined_22 : decode b_Mo_isJoined 22 = .ok (.iconst 0, 1) := by decide +kernel
theorem d_Mo_isJoined_23 : decode b_Mo_isJoined 23 = .ok (.istore 7, 2) := by decide +kernel
theorem d_Mo_isJoined_25 : decode b_Mo_isJoined 25 = .ok (.iload 7, 2) := by decide +kernel
theorem d_Mo_isJoined_27 : decode b_Mo_isJoined 27 = .ok (.aload_n 0, 1) := by decide +kernel
theorem d_Mo_isJoined_28 : decode b_Mo_isJoined 28 = .ok (.getfield 16, 3) := by decide +kernel
theorem d_Mo_isJoined_31 : decode b_Mo_isJoined 31 = .ok (.iload_n 1, 1) := by decide +kernel
theorem d_Mo_isJoined_32 : decode b_Mo_isJoined 32 = .ok (.iaload, 1) := by decide +kernel
theorem d_Mo_isJoined_33 : decode b_Mo_isJoined 33 = .ok (.if_icmp .ge 38, 3) := by decide +kernel
theorem d_Mo_isJoined_36 : decode b_Mo_isJoined 36 = .ok (.aload_n 0, 1) := by decide +kernel
theorem d_Mo_isJoined_37 : decode b_Mo_isJoined 37 = .ok (.iload_n 1, 1) := by decide +kernel
theorem d_Mo_isJoined_38 : decode b_Mo_isJoined 38 = .ok (.iload 6, 2) := by decide +kernel
theorem d_Mo_isJoined_40 : decode b_Mo_isJoined 40 = .ok (.iload 7, 2) := by decide +kernel
theorem d_Mo_isJoined_42 : decode b_Mo_isJoined 42 = .ok (.iload_n 2, 1) := by decide +kernel
theorem d_Mo_isJoined_43 : decode b_Mo_isJoined 43 = .ok (.invokevirtual 162, 3) := by decide +kernel
theorem d_Mo_isJoined_46 : decode b_Mo_isJoined 46 = .ok (.istore 8, 2) := by decide +kernel
theorem d_Mo_isJoined_48 : decode b_Mo_isJoined 48 = .ok (.iload 8, 2) := by decide +kernel
theorem d_Mo_isJoined_50 : decode b_Mo_isJoined 50 = .ok (.iload_n 3, 1) := by decide +kernel
theorem d_Mo_isJoined_51 : decode b_Mo_isJoined 51 = .ok (.if_icmp .le 14, 3) := by decide +kernel
theorem d_Mo_isJoined_54 : decode b_Mo_isJoined 54 = .ok (.iload 8, 2) := by decide +kernel
theorem d_Mo_isJoined_56 : decode b_Mo_isJoined 56 = .ok (.istore_n 3, 1) := by decide +kernel
theorem d_Mo_isJoined_57 : decode b_Mo_isJoined 57 = .ok (.iload 6, 2) := by decide +kernel
theorem d_Mo_isJoined_59 : decode b_Mo_isJoined 59 = .ok (.istore 4, 2) := by decide +kernel
theorem d_Mo_isJoined_61 : decode b_Mo_isJoined 61 = .ok (.iload 7, 2) := by decide +kernel
theorem d_Mo_isJoined_63 : decode b_Mo_isJoined 63 = .ok (.istore 5, 2) := by decide +kernel
theorem d_Mo_isJoined_65 : decode b_Mo_isJoined 65 = .ok (.iinc 7 1, 3) := by decide +kernel
theorem d_Mo_isJoined_68 : decode b_Mo_isJoined 68 = .ok (.goto (-43), 3) := by decide +kernel
theorem d_Mo_isJoined_71 : decode b_Mo_isJoined 71 = .ok (.iinc 6 1, 3) := by decide +kernel
theorem d_Mo_isJoined_74 : decode b_Mo_isJoined 74 = .ok (.goto (-63), 3) := by decide +kernel
theorem d_Mo_isJoined_77 : decode b_Mo_isJoined 77 = .ok (.iload_n 3, 1) := by decide +kernel
theorem d_Mo_isJoined_78 : decode b_Mo_isJoined 78 = .ok (.ifCond .le 13, 3) := by decide +kernel
theorem d_Mo_isJoined_81 : decode b_Mo_isJoined 81 = .ok (.aload_n 0, 1) := by decide +kernel
theorem d_Mo_isJoined_82 : decode b_Mo_isJoined 82 = .ok (.iload_n 1, 1) := by decide +kernel
theorem d_Mo_isJoined_83 : decode b_Mo_isJoined 83 = .ok (.iload 4, 2) := by decide +kernel
theorem d_Mo_isJoined_85 : decode b_Mo_isJoined 85 = .ok (.iload 5, 2) := by decide +kernel
theorem d_Mo_isJoined_87 : decode b_Mo_isJoined 87 = .ok (.iload_n 2, 1) := by decide +kernel
theorem d_Mo_isJoined_88 : decode b_Mo_isJoined 88 = .ok (.invokevirtual 166, 3) := by decide +kernel
theorem d_Mo_isJoined_91 : decode b_Mo_isJoined 91 = .ok (.iload_n 3, 1) := by decide +kernel
theorem d_Mo_isJoined_92 : decode b_Mo_isJoined 92 = .ok (.ifCond .le 7, 3) := by decide +kernel
theorem d_Mo_isJoined_95 : decode b_Mo_isJoined 95 = .ok (.iconst 1, 1) := by decide +kernel
theorem d_Mo_isJoined_96 : decode b_Mo_isJoined 96 = .ok (.goto 4, 3) := by decide +kernel
theorem d_Mo_isJoined_99 : decode b_Mo_isJoined 99 = .ok (.iconst 0, 1) := by decide +kernel
theorem d_Mo_isJoined_100 : decode b_Mo_isJoined 100 = .ok (.ireturn, 1) := by decide +kernel
def f_Mo_isJoined_25 (h : Hp) (l0 : Nat) (l1 : Int32) (l2 : Int32) (l6 : Int32) (k11 : Int32 → Int32 → Int32 → Int32 → Option (Int32 × Hp)) : Nat → Int32 → Int32 → Int32 → Int32 → Option (Int32 × Hp)
  | 0, _, _, _, _ => none
  | n + 1, l3, l4, l5, l7 =>
    (gR h 9 l0 2).bind fun t6 =>
    (gA h false t6 l1).bind fun t7 =>
    if t7 ≤ l7 then (
      k11 l3 l4 l5 (l6 + (1 : Int32))
    ) else (
      (f_Mo_closeness h l0 l1 l6 l7 l2).bind fun t8 =>
      (
        if t8 ≤ l3 then (
          some (l3, l4, l5)
        ) else (
          some (t8, l6, l7)
        )
      ).bind fun q9 =>
      f_Mo_isJoined_25 h l0 l1 l2 l6 k11 n q9.1 q9.2.1 q9.2.2 (l7 + (1 : Int32))
    )
set_option maxHeartbeats 4000000 in
set_option maxRecDepth 100000 in
theorem t_Mo_isJoined_25 {h : Hp} {l0 : Nat} {l1 : Int32} {l2 : Int32} {l6 : Int32} {k11 : Int32 → Int32 → Int32 → Int32 → Option (Int32 × Hp)} {r : (Int32 × Hp)} (C : Cx base D cI cZ b_Mo_isJoined 9 "MovedFoldersModel" "isJoined" (some .boolean) p s m args meth c) (hk11 : ∀ (l3 : Int32) (l4 : Int32) (l5 : Int32) (l6 : Int32), k11 l3 l4 l5 l6 = some r → ∀ (H : Heap) (locs : List Loc) (ls : Array Slot), RS base D cI cZ s H locs h → lv_has ls 9 [(0, .ref (base + l0)), (1, .int l1), (2, .int l2), (3, .int l3), (4, .int l4), (5, .int l5), (6, .int l6)] → Wg l base D cI cZ 3 73 0 0 r.2 (some (.int r.1)) p e s m args below meth c H locs 0 0 (F0 m 11 ls [])) : ∀ (n : Nat) (l3 : Int32) (l4 : Int32) (l5 : Int32) (l7 : Int32), f_Mo_isJoined_25 h l0 l1 l2 l6 k11 n l3 l4 l5 l7 = some r → ∀ (H : Heap) (locs : List Loc) (ls : Array Slot), RS base D cI cZ s H locs h → lv_has ls 9 [(0, .ref (base + l0)), (1, .int l1), (2, .int l2), (3, .int l3), (4, .int l4), (5, .int l5), (6, .int l6), (7, .int l7)] → Wg l base D cI cZ 3 73 0 0 r.2 (some (.int r.1)) p e s m args below meth c H locs 0 0 (F0 m 25 ls []) := by
  have hx := C.1
  have hb := C.2.1
  intro n
  induction n with
  | zero =>
    intro l3 l4 l5 l7 hM
    rw [f_Mo_isJoined_25] at hM
    cases hM
  | succ n ih =>
    intro l3 l4 l5 l7 hM H locs ls hS hl
    rw [f_Mo_isJoined_25] at hM
    refine lv_iload hx hb d_Mo_isJoined_25 (lv_at hl 7 rfl) ?_
    refine lv_aload_n hx hb d_Mo_isJoined_27 rfl (lv_at hl 0 rfl) ?_
    obtain ⟨t6, et6, hM⟩ := bS hM
    refine r_getR C hS fl_Mo_16 et6 d_Mo_isJoined_28 ?_
    refine lv_iload_n hx hb d_Mo_isJoined_31 rfl (lv_at hl 1 rfl) ?_
    obtain ⟨t7, et7, hM⟩ := bS hM
    refine r_iald C hS et7 d_Mo_isJoined_32 ?_
    refine lv_icmp_ge (tgt := 71) hx hb d_Mo_isJoined_33 (by decide) (fun c33_6 => ?_) (fun c33_6 => ?_)
    · rw [if_pos c33_6] at hM
      refine lv_iinc (v := (l6 + (1 : Int32))) (lv' := [(6, .int (l6 + (1 : Int32))), (0, .ref (base + l0)), (1, .int l1), (2, .int l2), (3, .int l3), (4, .int l4), (5, .int l5), (7, .int l7)]) hx hb d_Mo_isJoined_71 hl (k := 6) rfl (by rw [oi_1]) (by decide) rfl (fun ls hl => ?_)
      refine lv_goto (tgt := 11) hx hb d_Mo_isJoined_74 (by decide) ?_
      exact hk11 l3 l4 l5 (l6 + (1 : Int32)) hM _ _ _ hS (lv_sub hl [1, 2, 3, 4, 5, 6, 0] rfl)
    · rw [if_neg c33_6] at hM
      refine lv_aload_n hx hb d_Mo_isJoined_36 rfl (lv_at hl 0 rfl) ?_
      refine lv_iload_n hx hb d_Mo_isJoined_37 rfl (lv_at hl 1 rfl) ?_
      refine lv_iload hx hb d_Mo_isJoined_38 (lv_at hl 6 rfl) ?_
      refine lv_iload hx hb d_Mo_isJoined_40 (lv_at hl 7 rfl) ?_
      refine lv_iload_n hx hb d_Mo_isJoined_42 rfl (lv_at hl 2 rfl) ?_
      obtain ⟨t8, et8, hM⟩ := bS hM
      refine r_callVi (x := t8) C hS cv_Mo_162 (c_Mo_closeness l base D cI cZ h l0 l1 l6 l7 l2 et8) (o_Mo_closeness et8) (rest := []) rfl hl.1 rfl (Nat.le_of_ble_eq_true rfl) ⟨(Nat.le_of_ble_eq_true rfl), (Nat.le_of_ble_eq_true rfl)⟩ ⟨(Nat.le_of_ble_eq_true rfl), (Nat.le_of_ble_eq_true rfl)⟩ d_Mo_isJoined_43 (fun H locs hS => ?_)
      refine lv_istore (lv' := [(8, .int t8), (0, .ref (base + l0)), (1, .int l1), (2, .int l2), (3, .int l3), (4, .int l4), (5, .int l5), (6, .int l6), (7, .int l7)]) hx hb d_Mo_isJoined_46 hl (by decide) rfl (fun ls hl => ?_)
      refine lv_iload hx hb d_Mo_isJoined_48 (lv_at hl 0 rfl) ?_
      refine lv_iload_n hx hb d_Mo_isJoined_50 rfl (lv_at hl 4 rfl) ?_
      obtain ⟨q9, eq9, hM⟩ := bS hM
      have kJ65_7 : ∀ (H : Heap) (locs : List Loc) (ls : Array Slot), RS base D cI cZ s H locs h → lv_has ls 9 [(0, .ref (base + l0)), (1, .int l1), (2, .int l2), (3, .int q9.1), (4, .int q9.2.1), (5, .int q9.2.2), (6, .int l6), (7, .int l7)] → Wg l base D cI cZ 3 73 0 0 r.2 (some (.int r.1)) p e s m args below meth c H locs 0 0 (F0 m 65 ls []) := by
        intro H locs ls hS hl
        refine lv_iinc (v := (l7 + (1 : Int32))) (lv' := [(7, .int (l7 + (1 : Int32))), (0, .ref (base + l0)), (1, .int l1), (2, .int l2), (3, .int q9.1), (4, .int q9.2.1), (5, .int q9.2.2), (6, .int l6)]) hx hb d_Mo_isJoined_65 hl (k := 7) rfl (by rw [oi_1]) (by decide) rfl (fun ls hl => ?_)
        refine lv_goto (tgt := 25) hx hb d_Mo_isJoined_68 (by decide) ?_
        exact ih q9.1 q9.2.1 q9.2.2 (l7 + (1 : Int32)) hM _ _ _ hS (lv_sub hl [1, 2, 3, 4, 5, 6, 7, 0] rfl)
      refine lv_icmp_le (tgt := 65) hx hb d_Mo_isJoined_51 (by decide) (fun c51_8 => ?_) (fun c51_8 => ?_)
      · rw [if_pos c51_8] at eq9
        obtain rfl := Option.some.inj eq9
        exact kJ65_7 _ _ _ hS (lv_sub hl [1, 2, 3, 4, 5, 6, 7, 8] rfl)
      · rw [if_neg c51_8] at eq9
        refine lv_iload hx hb d_Mo_isJoined_54 (lv_at hl 0 rfl) ?_
        refine lv_istore_n (lv' := [(3, .int t8), (8, .int t8), (0, .ref (base + l0)), (1, .int l1), (2, .int l2), (4, .int l4), (5, .int l5), (6, .int l6), (7, .int l7)]) hx hb d_Mo_isJoined_56 rfl hl (by decide) rfl (fun ls hl => ?_)
        refine lv_iload hx hb d_Mo_isJoined_57 (lv_at hl 7 rfl) ?_
        refine lv_istore (lv' := [(4, .int l6), (3, .int t8), (8, .int t8), (0, .ref (base + l0)), (1, .int l1), (2, .int l2), (5, .int l5), (6, .int l6), (7, .int l7)]) hx hb d_Mo_isJoined_59 hl (by decide) rfl (fun ls hl => ?_)
        refine lv_iload hx hb d_Mo_isJoined_61 (lv_at hl 8 rfl) ?_
        refine lv_istore (lv' := [(5, .int l7), (4, .int l6), (3, .int t8), (8, .int t8), (0, .ref (base + l0)), (1, .int l1), (2, .int l2), (6, .int l6), (7, .int l7)]) hx hb d_Mo_isJoined_63 hl (by decide) rfl (fun ls hl => ?_)
        obtain rfl := Option.some.inj eq9
        exact kJ65_7 _ _ _ hS (lv_sub hl [4, 5, 6, 2, 1, 0, 7, 8] rfl)
def f_Mo_isJoined_11 (h : Hp) (l0 : Nat) (l1 : Int32) (l2 : Int32) : Nat → Int32 → Int32 → Int32 → Int32 → Option (Int32 × Hp)
  | 0, _, _, _, _ => none
  | n + 1, l3, l4, l5, l6 =>
    (gR h 9 l0 2).bind fun t1 =>
    (gA h false t1 (0 : Int32)).bind fun t2 =>
    if t2 ≤ l6 then (
      (
        if l3 ≤ (0 : Int32) then (
          some h
        ) else (
          (f_Mo_join h l0 l1 l4 l5 l2).bind fun h4 =>
          some h4
        )
      ).bind fun h3 =>
      (rz (if l3 ≤ (0 : Int32) then ((0 : Int32)) else ((1 : Int32)))).bind fun t5 => some (t5, h3)
    ) else (
      f_Mo_isJoined_25 h l0 l1 l2 l6 (fun l3 l4 l5 l6 => f_Mo_isJoined_11 h l0 l1 l2 n l3 l4 l5 l6) FU l3 l4 l5 (0 : Int32)
    )
set_option maxHeartbeats 4000000 in
set_option maxRecDepth 100000 in
theorem t_Mo_isJoined_11 {h : Hp} {l0 : Nat} {l1 : Int32} {l2 : Int32} {r : (Int32 × Hp)} (C : Cx base D cI cZ b_Mo_isJoined 9 "MovedFoldersModel" "isJoined" (some .boolean) p s m args meth c)  : ∀ (n : Nat) (l3 : Int32) (l4 : Int32) (l5 : Int32) (l6 : Int32), f_Mo_isJoined_11 h l0 l1 l2 n l3 l4 l5 l6 = some r → ∀ (H : Heap) (locs : List Loc) (ls : Array Slot), RS base D cI cZ s H locs h → lv_has ls 9 [(0, .ref (base + l0)), (1, .int l1), (2, .int l2), (3, .int l3), (4, .int l4), (5, .int l5), (6, .int l6)] → Wg l base D cI cZ 3 73 0 0 r.2 (some (.int r.1)) p e s m args below meth c H locs 0 0 (F0 m 11 ls []) := by
  have hx := C.1
  have hb := C.2.1
  intro n
  induction n with
  | zero =>
    intro l3 l4 l5 l6 hM
    rw [f_Mo_isJoined_11] at hM
    cases hM
  | succ n ih =>
    intro l3 l4 l5 l6 hM H locs ls hS hl
    rw [f_Mo_isJoined_11] at hM
    refine lv_iload hx hb d_Mo_isJoined_11 (lv_at hl 6 rfl) ?_
    refine lv_aload_n hx hb d_Mo_isJoined_13 rfl (lv_at hl 0 rfl) ?_
    obtain ⟨t1, et1, hM⟩ := bS hM
    refine r_getR C hS fl_Mo_16 et1 d_Mo_isJoined_14 ?_
    refine lv_iconst (v := (0 : Int32)) hx hb d_Mo_isJoined_17 (by decide) ?_
    obtain ⟨t2, et2, hM⟩ := bS hM
    refine r_iald C hS et2 d_Mo_isJoined_18 ?_
    refine lv_icmp_ge (tgt := 77) hx hb d_Mo_isJoined_19 (by decide) (fun c19_1 => ?_) (fun c19_1 => ?_)
    · rw [if_pos c19_1] at hM
      refine lv_iload_n hx hb d_Mo_isJoined_77 rfl (lv_at hl 3 rfl) ?_
      obtain ⟨h3, eh3, hM⟩ := bS hM
      have kJ91_2 : ∀ (H : Heap) (locs : List Loc) (ls : Array Slot), RS base D cI cZ s H locs h3 → lv_has ls 9 [(3, .int l3)] → Wg l base D cI cZ 3 73 0 0 r.2 (some (.int r.1)) p e s m args below meth c H locs 0 0 (F0 m 91 ls []) := by
        intro H locs ls hS hl
        refine lv_iload_n hx hb d_Mo_isJoined_91 rfl (lv_at hl 0 rfl) ?_
        have kJ100_4 : ∀ (H : Heap) (locs : List Loc) (ls : Array Slot), RS base D cI cZ s H locs h3 → lv_has ls 9 [] → Wg l base D cI cZ 3 73 0 0 r.2 (some (.int r.1)) p e s m args below meth c H locs 0 0 (F0 m 100 ls [.int (if l3 ≤ (0 : Int32) then ((0 : Int32)) else ((1 : Int32)))]) := by
          intro H locs ls hS hl
          obtain ⟨t5, et5, hM⟩ := bS hM
          obtain rfl := Option.some.inj hM
          exact r_zret C hS et5 d_Mo_isJoined_100
        refine lv_if_le (tgt := 99) hx hb d_Mo_isJoined_92 (by decide) (fun c92_5 => ?_) (fun c92_5 => ?_)
        · rw [if_pos c92_5] at kJ100_4
          refine lv_iconst (v := (0 : Int32)) hx hb d_Mo_isJoined_99 (by decide) ?_
          exact kJ100_4 _ _ _ hS (lv_sub hl [] rfl)
        · rw [if_neg c92_5] at kJ100_4
          refine lv_iconst (v := (1 : Int32)) hx hb d_Mo_isJoined_95 (by decide) ?_
          refine lv_goto (tgt := 100) hx hb d_Mo_isJoined_96 (by decide) ?_
          exact kJ100_4 _ _ _ hS (lv_sub hl [] rfl)
      refine lv_if_le (tgt := 91) hx hb d_Mo_isJoined_78 (by decide) (fun c78_3 => ?_) (fun c78_3 => ?_)
      · rw [if_pos c78_3] at eh3
        obtain rfl := Option.some.inj eh3
        exact kJ91_2 _ _ _ hS (lv_sub hl [3] rfl)
      · rw [if_neg c78_3] at eh3
        refine lv_aload_n hx hb d_Mo_isJoined_81 rfl (lv_at hl 0 rfl) ?_
        refine lv_iload_n hx hb d_Mo_isJoined_82 rfl (lv_at hl 1 rfl) ?_
        refine lv_iload hx hb d_Mo_isJoined_83 (lv_at hl 4 rfl) ?_
        refine lv_iload hx hb d_Mo_isJoined_85 (lv_at hl 5 rfl) ?_
        refine lv_iload_n hx hb d_Mo_isJoined_87 rfl (lv_at hl 2 rfl) ?_
        obtain ⟨h4, eh4, eh3⟩ := bS eh3
        refine r_callVv C hS cv_Mo_166 (c_Mo_join l base D cI cZ h l0 l1 l4 l5 l2 eh4) (o_Mo_join eh4) (rest := []) rfl hl.1 rfl (Nat.le_of_ble_eq_true rfl) ⟨(Nat.le_of_ble_eq_true rfl), (Nat.le_of_ble_eq_true rfl)⟩ ⟨(Nat.le_of_ble_eq_true rfl), (Nat.le_of_ble_eq_true rfl)⟩ d_Mo_isJoined_88 (fun H locs hS => ?_)
        obtain rfl := Option.some.inj eh3
        exact kJ91_2 _ _ _ hS (lv_sub hl [3] rfl)
    · rw [if_neg c19_1] at hM
      refine lv_iconst (v := (0 : Int32)) hx hb d_Mo_isJoined_22 (by decide) ?_
      refine lv_istore (lv' := [(7, .int (0 : Int32)), (0, .ref (base + l0)), (1, .int l1), (2, .int l2), (3, .int l3), (4, .int l4), (5, .int l5), (6, .int l6)]) hx hb d_Mo_isJoined_23 hl (by decide) rfl (fun ls hl => ?_)
      exact t_Mo_isJoined_25 (k11 := (fun l3 l4 l5 l6 => f_Mo_isJoined_11 h l0 l1 l2 n l3 l4 l5 l6)) C ih FU l3 l4 l5 (0 : Int32) hM _ _ _ hS (lv_sub hl [1, 2, 3, 4, 5, 6, 7, 0] rfl)
def f_Mo_isJoined (h : Hp) (l0 : Nat) (l1 : Int32) (l2 : Int32) : Option (Int32 × Hp) :=
  ck h 9 l0 (
    f_Mo_isJoined_11 h l0 l1 l2 FU (0 : Int32) (0 : Int32) (0 : Int32) (0 : Int32)
  )
theorem o_Mo_isJoined {h : Hp} {l0 : Nat} {l1 : Int32} {l2 : Int32} {r : (Int32 × Hp)} (hM : f_Mo_isJoined h l0 l1 l2 = some r) : isO h 9 l0 = true := by
  unfold f_Mo_isJoined at hM
  exact (ck_some hM).1
set_option maxHeartbeats 4000000 in
set_option maxRecDepth 100000 in
theorem t_Mo_isJoined {h : Hp} {l0 : Nat} {l1 : Int32} {l2 : Int32} {r : (Int32 × Hp)} (C : Cx base D cI cZ b_Mo_isJoined 9 "MovedFoldersModel" "isJoined" (some .boolean) p s m args meth c) (hM : f_Mo_isJoined h l0 l1 l2 = some r) (H : Heap) (locs : List Loc) (ls : Array Slot) (hS : RS base D cI cZ s H locs h) (hl : lv_has ls 9 [(0, .ref (base + l0)), (1, .int l1), (2, .int l2)]) : Wg l base D cI cZ 3 73 0 0 r.2 (some (.int r.1)) p e s m args below meth c H locs 0 0 (F0 m 0 ls []) := by
  have hx := C.1
  have hb := C.2.1
  unfold f_Mo_isJoined at hM
  replace hM := (ck_some hM).2
  refine lv_iconst (v := (0 : Int32)) hx hb d_Mo_isJoined_0 (by decide) ?_
  refine lv_istore_n (lv' := [(3, .int (0 : Int32)), (0, .ref (base + l0)), (1, .int l1), (2, .int l2)]) hx hb d_Mo_isJoined_1 rfl hl (by decide) rfl (fun ls hl => ?_)
  refine lv_iconst (v := (0 : Int32)) hx hb d_Mo_isJoined_2 (by decide) ?_
  refine lv_istore (lv' := [(4, .int (0 : Int32)), (3, .int (0 : Int32)), (0, .ref (base + l0)), (1, .int l1), (2, .int l2)]) hx hb d_Mo_isJoined_3 hl (by decide) rfl (fun ls hl => ?_)
  refine lv_iconst (v := (0 : Int32)) hx hb d_Mo_isJoined_5 (by decide) ?_
  refine lv_istore (lv' := [(5, .int (0 : Int32)), (4, .int (0 : Int32)), (3, .int (0 : Int32)), (0, .ref (base + l0)), (1, .int l1), (2, .int l2)]) hx hb d_Mo_isJoined_6 hl (by decide) rfl (fun ls hl => ?_)
  refine lv_iconst (v := (0 : Int32)) hx hb d_Mo_isJoined_8 (by decide) ?_
  refine lv_istore (lv' := [(6, .int (0 : Int32)), (5, .int (0 : Int32)), (4, .int (0 : Int32)), (3, .int (0 : Int32)), (0, .ref (base + l0)), (1, .int l1), (2, .int l2)]) hx hb d_Mo_isJoined_9 hl (by decide) rfl (fun ls hl => ?_)
  exact t_Mo_isJoined_11  C  FU (0 : Int32) (0 : Int32) (0 : Int32) (0 : Int32) hM _ _ _ hS (lv_sub hl [4, 5, 6, 3, 2, 1, 0] rfl)
theorem c_Mo_isJoined (l : Launch) (base : Nat) (D : va_G) (cI cZ : ClassId) (h : Hp) (l0 : Nat) (l1 : Int32) (l2 : Int32) {r : (Int32 × Hp)} (hM : f_Mo_isJoined h l0 l1 l2 = some r) : Ct l base D cI cZ y_Mo_isJoined b_Mo_isJoined 9 (some .boolean) 3 73 0 0 h [.ref (base + l0), .int l1, .int l2] r.2 (some (.int r.1)) :=
  ct_of (by decide) (Nat.le_of_ble_eq_true rfl) (fun p e s m below meth c ls C hS hl => t_Mo_isJoined C hM _ _ _ hS hl)
theorem d_Mo_findPairs_0 : decode b_Mo_findPairs 0 = .ok (.iconst 0, 1) := by decide +kernel
theorem d_Mo_findPairs_1 : decode b_Mo_findPairs 1 = .ok (.istore_n 2, 1) := by decide +kernel
theorem d_Mo_findPairs_2 : decode b_Mo_findPairs 2 = .ok (.iload_n 2, 1) := by decide +kernel
theorem d_Mo_findPairs_3 : decode b_Mo_findPairs 3 = .ok (.bipush 12, 2) := by decide +kernel
theorem d_Mo_findPairs_5 : decode b_Mo_findPairs 5 = .ok (.if_icmp .ge 48, 3) := by decide +kernel
theorem d_Mo_findPairs_8 : decode b_Mo_findPairs 8 = .ok (.aload_n 0, 1) := by decide +kernel
theorem d_Mo_findPairs_9 : decode b_Mo_findPairs 9 = .ok (.getfield 26, 3) := by decide +kernel
theorem d_Mo_findPairs_12 : decode b_Mo_findPairs 12 = .ok (.bipush 12, 2) := by decide +kernel
theorem d_Mo_findPairs_14 : decode b_Mo_findPairs 14 = .ok (.iload_n 1, 1) := by decide +kernel
theorem d_Mo_findPairs_15 : decode b_Mo_findPairs 15 = .ok (.imul, 1) := by decide +kernel
theorem d_Mo_findPairs_16 : decode b_Mo_findPairs 16 = .ok (.iload_n 2, 1) := by decide +kernel
theorem d_Mo_findPairs_17 : decode b_Mo_findPairs 17 = .ok (.iadd, 1) := by decide +kernel
theorem d_Mo_findPairs_18 : decode b_Mo_findPairs 18 = .ok (.bipush (-6), 2) := by decide +kernel
theorem d_Mo_findPairs_20 : decode b_Mo_findPairs 20 = .ok (.iastore, 1) := by decide +kernel
theorem d_Mo_findPairs_21 : decode b_Mo_findPairs 21 = .ok (.aload_n 0, 1) := by decide +kernel
theorem d_Mo_findPairs_22 : decode b_Mo_findPairs 22 = .ok (.getfield 29, 3) := by decide +kernel
theorem d_Mo_findPairs_25 : decode b_Mo_findPairs 25 = .ok (.bipush 12, 2) := by decide +kernel
theorem d_Mo_findPairs_27 : decode b_Mo_findPairs 27 = .ok (.iload_n 1, 1) := by decide +kernel
theorem d_Mo_findPairs_28 : decode b_Mo_findPairs 28 = .ok (.imul, 1) := by decide +kernel
theorem d_Mo_findPairs_29 : decode b_Mo_findPairs 29 = .ok (.iload_n 2, 1) := by decide +kernel
theorem d_Mo_findPairs_30 : decode b_Mo_findPairs 30 = .ok (.iadd, 1) := by decide +kernel
theorem d_Mo_findPairs_31 : decode b_Mo_findPairs 31 = .ok (.bipush (-6), 2) := by decide +kernel
theorem d_Mo_findPairs_33 : decode b_Mo_findPairs 33 = .ok (.iastore, 1) := by decide +kernel
theorem d_Mo_findPairs_34 : decode b_Mo_findPairs 34 = .ok (.aload_n 0, 1) := by decide +kernel
theorem d_Mo_findPairs_35 : decode b_Mo_findPairs 35 = .ok (.getfield 32, 3) := by decide +kernel
theorem d_Mo_findPairs_38 : decode b_Mo_findPairs 38 = .ok (.bipush 12, 2) := by decide +kernel
theorem d_Mo_findPairs_40 : decode b_Mo_findPairs 40 = .ok (.iload_n 1, 1) := by decide +kernel
theorem d_Mo_findPairs_41 : decode b_Mo_findPairs 41 = .ok (.imul, 1) := by decide +kernel
theorem d_Mo_findPairs_42 : decode b_Mo_findPairs 42 = .ok (.iload_n 2, 1) := by decide +kernel
theorem d_Mo_findPairs_43 : decode b_Mo_findPairs 43 = .ok (.iadd, 1) := by decide +kernel
theorem d_Mo_findPairs_44 : decode b_Mo_findPairs 44 = .ok (.bipush (-6), 2) := by decide +kernel
theorem d_Mo_findPairs_46 : decode b_Mo_findPairs 46 = .ok (.iastore, 1) := by decide +kernel
theorem d_Mo_findPairs_47 : decode b_Mo_findPairs 47 = .ok (.iinc 2 1, 3) := by decide +kernel
theorem d_Mo_findPairs_50 : decode b_Mo_findPairs 50 = .ok (.goto (-48), 3) := by decide +kernel
theorem d_Mo_findPairs_53 : decode b_Mo_findPairs 53 = .ok (.iconst 0, 1) := by decide +kernel
theorem d_Mo_findPairs_54 : decode b_Mo_findPairs 54 = .ok (.istore_n 2, 1) := by decide +kernel
theorem d_Mo_findPairs_55 : decode b_Mo_findPairs 55 = .ok (.iload_n 2, 1) := by decide +kernel
theorem d_Mo_findPairs_56 : decode b_Mo_findPairs 56 = .ok (.aload_n 0, 1) := by decide +kernel
theorem d_Mo_findPairs_57 : decode b_Mo_findPairs 57 = .ok (.getfield 16, 3) := by decide +kernel
theorem d_Mo_findPairs_60 : decode b_Mo_findPairs 60 = .ok (.iconst 0, 1) := by decide +kernel
theorem d_Mo_findPairs_61 : decode b_Mo_findPairs 61 = .ok (.iaload, 1) := by decide +kernel
theorem d_Mo_findPairs_62 : decode b_Mo_findPairs 62 = .ok (.if_icmp .ge 55, 3) := by decide +kernel
theorem d_Mo_findPairs_65 : decode b_Mo_findPairs 65 = .ok (.iconst 0, 1) := by decide +kernel
theorem d_Mo_findPairs_66 : decode b_Mo_findPairs 66 = .ok (.istore_n 3, 1) := by decide +kernel
theorem d_Mo_findPairs_67 : decode b_Mo_findPairs 67 = .ok (.iload_n 3, 1) := by decide +kernel
theorem d_Mo_findPairs_68 : decode b_Mo_findPairs 68 = .ok (.aload_n 0, 1) := by decide +kernel
theorem d_Mo_findPairs_69 : decode b_Mo_findPairs 69 = .ok (.getfield 16, 3) := by decide +kernel
theorem d_Mo_findPairs_72 : decode b_Mo_findPairs 72 = .ok (.iload_n 1, 1) := by decide +kernel
theorem d_Mo_findPairs_73 : decode b_Mo_findPairs 73 = .ok (.iaload, 1) := by decide +kernel
theorem d_Mo_findPairs_74 : decode b_Mo_findPairs 74 = .ok (.if_icmp .ge 37, 3) := by decide +kernel
theorem d_Mo_findPairs_77 : decode b_Mo_findPairs 77 = .ok (.aload_n 0, 1) := by decide +kernel
theorem d_Mo_findPairs_78 : decode b_Mo_findPairs 78 = .ok (.getfield 7, 3) := by decide +kernel
theorem d_Mo_findPairs_81 : decode b_Mo_findPairs 81 = .ok (.iload_n 2, 1) := by decide +kernel
theorem d_Mo_findPairs_82 : decode b_Mo_findPairs 82 = .ok (.iaload, 1) := by decide +kernel
theorem d_Mo_findPairs_83 : decode b_Mo_findPairs 83 = .ok (.aload_n 0, 1) := by decide +kernel
theorem d_Mo_findPairs_84 : decode b_Mo_findPairs 84 = .ok (.getfield 7, 3) := by decide +kernel
theorem d_Mo_findPairs_87 : decode b_Mo_findPairs 87 = .ok (.bipush 12, 2) := by decide +kernel
theorem d_Mo_findPairs_89 : decode b_Mo_findPairs 89 = .ok (.iload_n 1, 1) := by decide +kernel
theorem d_Mo_findPairs_90 : decode b_Mo_findPairs 90 = .ok (.imul, 1) := by decide +kernel
theorem d_Mo_findPairs_91 : decode b_Mo_findPairs 91 = .ok (.iload_n 3, 1) := by decide +kernel
theorem d_Mo_findPairs_92 : decode b_Mo_findPairs 92 = .ok (.iadd, 1) := by decide +kernel
theorem d_Mo_findPairs_93 : decode b_Mo_findPairs 93 = .ok (.iaload, 1) := by decide +kernel
theorem d_Mo_findPairs_94 : decode b_Mo_findPairs 94 = .ok (.if_icmp .ne 11, 3) := by decide +kernel
theorem d_Mo_findPairs_97 : decode b_Mo_findPairs 97 = .ok (.aload_n 0, 1) := by decide +kernel
theorem d_Mo_findPairs_98 : decode b_Mo_findPairs 98 = .ok (.iload_n 1, 1) := by decide +kernel
theorem d_Mo_findPairs_99 : decode b_Mo_findPairs 99 = .ok (.iload_n 2, 1) := by decide +kernel
theorem d_Mo_findPairs_100 : decode b_Mo_findPairs 100 = .ok (.iload_n 3, 1) := by decide +kernel
theorem d_Mo_findPairs_101 : decode b_Mo_findPairs 101 = .ok (.iconst 0, 1) := by decide +kernel
theorem d_Mo_findPairs_102 : decode b_Mo_findPairs 102 = .ok (.invokevirtual 166, 3) := by decide +kernel
theorem d_Mo_findPairs_105 : decode b_Mo_findPairs 105 = .ok (.iinc 3 1, 3) := by decide +kernel
theorem d_Mo_findPairs_108 : decode b_Mo_findPairs 108 = .ok (.goto (-41), 3) := by decide +kernel
theorem d_Mo_findPairs_111 : decode b_Mo_findPairs 111 = .ok (.iinc 2 1, 3) := by decide +kernel
theorem d_Mo_findPairs_114 : decode b_Mo_findPairs 114 = .ok (.goto (-59), 3) := by decide +kernel
theorem d_Mo_findPairs_117 : decode b_Mo_findPairs 117 = .ok (.iconst 1, 1) := by decide +kernel
theorem d_Mo_findPairs_118 : decode b_Mo_findPairs 118 = .ok (.istore_n 2, 1) := by decide +kernel
theorem d_Mo_findPairs_119 : decode b_Mo_findPairs 119 = .ok (.iload_n 2, 1) := by decide +kernel
theorem d_Mo_findPairs_120 : decode b_Mo_findPairs 120 = .ok (.iconst 2, 1) := by decide +kernel
theorem d_Mo_findPairs_121 : decode b_Mo_findPairs 121 = .ok (.if_icmp .gt 25, 3) := by decide +kernel
theorem d_Mo_findPairs_124 : decode b_Mo_findPairs 124 = .ok (.iconst 1, 1) := by decide +kernel
theorem d_Mo_findPairs_125 : decode b_Mo_findPairs 125 = .ok (.istore_n 3, 1) := by decide +kernel
theorem d_Mo_findPairs_126 : decode b_Mo_findPairs 126 = .ok (.iload_n 3, 1) := by decide +kernel
theorem d_Mo_findPairs_127 : decode b_Mo_findPairs 127 = .ok (.ifCond .eq 13, 3) := by decide +kernel
theorem d_Mo_findPairs_130 : decode b_Mo_findPairs 130 = .ok (.aload_n 0, 1) := by decide +kernel
theorem d_Mo_findPairs_131 : decode b_Mo_findPairs 131 = .ok (.iload_n 1, 1) := by decide +kernel
theorem d_Mo_findPairs_132 : decode b_Mo_findPairs 132 = .ok (.iload_n 2, 1) := by decide +kernel
theorem d_Mo_findPairs_133 : decode b_Mo_findPairs 133 = .ok (.invokevirtual 169, 3) := by decide +kernel
theorem d_Mo_findPairs_136 : decode b_Mo_findPairs 136 = .ok (.istore_n 3, 1) := by decide +kernel
theorem d_Mo_findPairs_137 : decode b_Mo_findPairs 137 = .ok (.goto (-11), 3) := by decide +kernel
theorem d_Mo_findPairs_140 : decode b_Mo_findPairs 140 = .ok (.iinc 2 1, 3) := by decide +kernel
theorem d_Mo_findPairs_143 : decode b_Mo_findPairs 143 = .ok (.goto (-24), 3) := by decide +kernel
theorem d_Mo_findPairs_146 : decode b_Mo_findPairs 146 = .ok (.return_, 1) := by decide +kernel
def f_Mo_findPairs_126 (l0 : Nat) (l1 : Int32) (l2 : Int32) (k119 : Int32 → Hp → Option Hp) : Nat → Int32 → Hp → Option Hp
  | 0, _, _ => none
  | n + 1, l3, h =>
    if l3 = (0 : Int32) then (
      k119 (l2 + (1 : Int32)) h
    ) else (
      (f_Mo_isJoined h l0 l1 l2).bind fun q3 =>
      f_Mo_findPairs_126 l0 l1 l2 k119 n q3.1 q3.2
    )
set_option maxHeartbeats 4000000 in
set_option maxRecDepth 100000 in
theorem t_Mo_findPairs_126 {l0 : Nat} {l1 : Int32} {l2 : Int32} {k119 : Int32 → Hp → Option Hp} {r : Hp} (C : Cx base D cI cZ b_Mo_findPairs 4 "MovedFoldersModel" "findPairs" none p s m args meth c) (hk119 : ∀ (l2 : Int32) (h : Hp), k119 l2 h = some r → ∀ (H : Heap) (locs : List Loc) (ls : Array Slot), RS base D cI cZ s H locs h → lv_has ls 4 [(0, .ref (base + l0)), (1, .int l1), (2, .int l2)] → Wg l base D cI cZ 4 101 0 0 r none p e s m args below meth c H locs 0 0 (F0 m 119 ls [])) : ∀ (n : Nat) (l3 : Int32) (h : Hp), f_Mo_findPairs_126 l0 l1 l2 k119 n l3 h = some r → ∀ (H : Heap) (locs : List Loc) (ls : Array Slot), RS base D cI cZ s H locs h → lv_has ls 4 [(0, .ref (base + l0)), (1, .int l1), (2, .int l2), (3, .int l3)] → Wg l base D cI cZ 4 101 0 0 r none p e s m args below meth c H locs 0 0 (F0 m 126 ls []) := by
  have hx := C.1
  have hb := C.2.1
  intro n
  induction n with
  | zero =>
    intro l3 h hM
    rw [f_Mo_findPairs_126] at hM
    cases hM
  | succ n ih =>
    intro l3 h hM H locs ls hS hl
    rw [f_Mo_findPairs_126] at hM
    refine lv_iload_n hx hb d_Mo_findPairs_126 rfl (lv_at hl 3 rfl) ?_
    refine lv_if_eq (tgt := 140) hx hb d_Mo_findPairs_127 (by decide) (fun c127_4 => ?_) (fun c127_4 => ?_)
    · rw [if_pos c127_4] at hM
      refine lv_iinc (v := (l2 + (1 : Int32))) (lv' := [(2, .int (l2 + (1 : Int32))), (0, .ref (base + l0)), (1, .int l1), (3, .int l3)]) hx hb d_Mo_findPairs_140 hl (k := 2) rfl (by rw [oi_1]) (by decide) rfl (fun ls hl => ?_)
      refine lv_goto (tgt := 119) hx hb d_Mo_findPairs_143 (by decide) ?_
      exact hk119 (l2 + (1 : Int32)) h hM _ _ _ hS (lv_sub hl [1, 2, 0] rfl)
    · rw [if_neg c127_4] at hM
      refine lv_aload_n hx hb d_Mo_findPairs_130 rfl (lv_at hl 0 rfl) ?_
      refine lv_iload_n hx hb d_Mo_findPairs_131 rfl (lv_at hl 1 rfl) ?_
      refine lv_iload_n hx hb d_Mo_findPairs_132 rfl (lv_at hl 2 rfl) ?_
      obtain ⟨q3, eq3, hM⟩ := bS hM
      refine r_callVi (x := q3.1) C hS cv_Mo_169 (c_Mo_isJoined l base D cI cZ h l0 l1 l2 eq3) (o_Mo_isJoined eq3) (rest := []) rfl hl.1 rfl (Nat.le_of_ble_eq_true rfl) ⟨(Nat.le_of_ble_eq_true rfl), (Nat.le_of_ble_eq_true rfl)⟩ ⟨(Nat.le_of_ble_eq_true rfl), (Nat.le_of_ble_eq_true rfl)⟩ d_Mo_findPairs_133 (fun H locs hS => ?_)
      refine lv_istore_n (lv' := [(3, .int q3.1), (0, .ref (base + l0)), (1, .int l1), (2, .int l2)]) hx hb d_Mo_findPairs_136 rfl hl (by decide) rfl (fun ls hl => ?_)
      refine lv_goto (tgt := 126) hx hb d_Mo_findPairs_137 (by decide) ?_
      exact ih q3.1 q3.2 hM _ _ _ hS (lv_sub hl [1, 2, 3, 0] rfl)
def f_Mo_findPairs_119 (l0 : Nat) (l1 : Int32) : Nat → Int32 → Hp → Option Hp
  | 0, _, _ => none
  | n + 1, l2, h =>
    if (2 : Int32) < l2 then (
      some h
    ) else (
      f_Mo_findPairs_126 l0 l1 l2 (fun l2 h => f_Mo_findPairs_119 l0 l1 n l2 h) FU (1 : Int32) h
    )
set_option maxHeartbeats 4000000 in
set_option maxRecDepth 100000 in
theorem t_Mo_findPairs_119 {l0 : Nat} {l1 : Int32} {r : Hp} (C : Cx base D cI cZ b_Mo_findPairs 4 "MovedFoldersModel" "findPairs" none p s m args meth c)  : ∀ (n : Nat) (l2 : Int32) (h : Hp), f_Mo_findPairs_119 l0 l1 n l2 h = some r → ∀ (H : Heap) (locs : List Loc) (ls : Array Slot), RS base D cI cZ s H locs h → lv_has ls 4 [(0, .ref (base + l0)), (1, .int l1), (2, .int l2)] → Wg l base D cI cZ 4 101 0 0 r none p e s m args below meth c H locs 0 0 (F0 m 119 ls []) := by
  have hx := C.1
  have hb := C.2.1
  intro n
  induction n with
  | zero =>
    intro l2 h hM
    rw [f_Mo_findPairs_119] at hM
    cases hM
  | succ n ih =>
    intro l2 h hM H locs ls hS hl
    rw [f_Mo_findPairs_119] at hM
    refine lv_iload_n hx hb d_Mo_findPairs_119 rfl (lv_at hl 2 rfl) ?_
    refine lv_iconst (v := (2 : Int32)) hx hb d_Mo_findPairs_120 (by decide) ?_
    refine lv_icmp_gt (tgt := 146) hx hb d_Mo_findPairs_121 (by decide) (fun c121_3 => ?_) (fun c121_3 => ?_)
    · rw [if_pos c121_3] at hM
      obtain rfl := Option.some.inj hM
      exact r_vret C hS d_Mo_findPairs_146
    · rw [if_neg c121_3] at hM
      refine lv_iconst (v := (1 : Int32)) hx hb d_Mo_findPairs_124 (by decide) ?_
      refine lv_istore_n (lv' := [(3, .int (1 : Int32)), (0, .ref (base + l0)), (1, .int l1), (2, .int l2)]) hx hb d_Mo_findPairs_125 rfl hl (by decide) rfl (fun ls hl => ?_)
      exact t_Mo_findPairs_126 (k119 := (fun l2 h => f_Mo_findPairs_119 l0 l1 n l2 h)) C ih FU (1 : Int32) h hM _ _ _ hS (lv_sub hl [1, 2, 3, 0] rfl)
def f_Mo_findPairs_67 (l0 : Nat) (l1 : Int32) (l2 : Int32) (k55 : Int32 → Hp → Option Hp) : Nat → Int32 → Hp → Option Hp
  | 0, _, _ => none
  | n + 1, l3, h =>
    (gR h 9 l0 2).bind fun t4 =>
    (gA h false t4 l1).bind fun t5 =>
    if t5 ≤ l3 then (
      k55 (l2 + (1 : Int32)) h
    ) else (
      (gR h 9 l0 0).bind fun t6 =>
      (gA h false t6 l2).bind fun t7 =>
      (gR h 9 l0 0).bind fun t8 =>
      (gA h false t8 (((12 : Int32) * l1) + l3)).bind fun t9 =>
      (
        if t7 = t9 then (
          (f_Mo_join h l0 l1 l2 l3 (0 : Int32)).bind fun h11 =>
          some h11
        ) else (
          some h
        )
      ).bind fun h10 =>
      f_Mo_findPairs_67 l0 l1 l2 k55 n (l3 + (1 : Int32)) h10
    )
set_option maxHeartbeats 4000000 in
set_option maxRecDepth 100000 in
theorem t_Mo_findPairs_67 {l0 : Nat} {l1 : Int32} {l2 : Int32} {k55 : Int32 → Hp → Option Hp} {r : Hp} (C : Cx base D cI cZ b_Mo_findPairs 4 "MovedFoldersModel" "findPairs" none p s m args meth c) (hk55 : ∀ (l2 : Int32) (h : Hp), k55 l2 h = some r → ∀ (H : Heap) (locs : List Loc) (ls : Array Slot), RS base D cI cZ s H locs h → lv_has ls 4 [(0, .ref (base + l0)), (1, .int l1), (2, .int l2)] → Wg l base D cI cZ 4 101 0 0 r none p e s m args below meth c H locs 0 0 (F0 m 55 ls [])) : ∀ (n : Nat) (l3 : Int32) (h : Hp), f_Mo_findPairs_67 l0 l1 l2 k55 n l3 h = some r → ∀ (H : Heap) (locs : List Loc) (ls : Array Slot), RS base D cI cZ s H locs h → lv_has ls 4 [(0, .ref (base + l0)), (1, .int l1), (2, .int l2), (3, .int l3)] → Wg l base D cI cZ 4 101 0 0 r none p e s m args below meth c H locs 0 0 (F0 m 67 ls []) := by
  have hx := C.1
  have hb := C.2.1
  intro n
  induction n with
  | zero =>
    intro l3 h hM
    rw [f_Mo_findPairs_67] at hM
    cases hM
  | succ n ih =>
    intro l3 h hM H locs ls hS hl
    rw [f_Mo_findPairs_67] at hM
    refine lv_iload_n hx hb d_Mo_findPairs_67 rfl (lv_at hl 3 rfl) ?_
    refine lv_aload_n hx hb d_Mo_findPairs_68 rfl (lv_at hl 0 rfl) ?_
    obtain ⟨t4, et4, hM⟩ := bS hM
    refine r_getR C hS fl_Mo_16 et4 d_Mo_findPairs_69 ?_
    refine lv_iload_n hx hb d_Mo_findPairs_72 rfl (lv_at hl 1 rfl) ?_
    obtain ⟨t5, et5, hM⟩ := bS hM
    refine r_iald C hS et5 d_Mo_findPairs_73 ?_
    refine lv_icmp_ge (tgt := 111) hx hb d_Mo_findPairs_74 (by decide) (fun c74_5 => ?_) (fun c74_5 => ?_)
    · rw [if_pos c74_5] at hM
      refine lv_iinc (v := (l2 + (1 : Int32))) (lv' := [(2, .int (l2 + (1 : Int32))), (0, .ref (base + l0)), (1, .int l1), (3, .int l3)]) hx hb d_Mo_findPairs_111 hl (k := 2) rfl (by rw [oi_1]) (by decide) rfl (fun ls hl => ?_)
      refine lv_goto (tgt := 55) hx hb d_Mo_findPairs_114 (by decide) ?_
      exact hk55 (l2 + (1 : Int32)) h hM _ _ _ hS (lv_sub hl [1, 2, 0] rfl)
    · rw [if_neg c74_5] at hM
      refine lv_aload_n hx hb d_Mo_findPairs_77 rfl (lv_at hl 0 rfl) ?_
      obtain ⟨t6, et6, hM⟩ := bS hM
      refine r_getR C hS fl_Mo_7 et6 d_Mo_findPairs_78 ?_
      refine lv_iload_n hx hb d_Mo_findPairs_81 rfl (lv_at hl 2 rfl) ?_
      obtain ⟨t7, et7, hM⟩ := bS hM
      refine r_iald C hS et7 d_Mo_findPairs_82 ?_
      refine lv_aload_n hx hb d_Mo_findPairs_83 rfl (lv_at hl 0 rfl) ?_
      obtain ⟨t8, et8, hM⟩ := bS hM
      refine r_getR C hS fl_Mo_7 et8 d_Mo_findPairs_84 ?_
      refine lv_bipush (v := (12 : Int32)) hx hb d_Mo_findPairs_87 (by decide) ?_
      refine lv_iload_n hx hb d_Mo_findPairs_89 rfl (lv_at hl 1 rfl) ?_
      refine lv_imul hx hb d_Mo_findPairs_90 ?_
      refine lv_iload_n hx hb d_Mo_findPairs_91 rfl (lv_at hl 3 rfl) ?_
      refine lv_iadd hx hb d_Mo_findPairs_92 ?_
      obtain ⟨t9, et9, hM⟩ := bS hM
      refine r_iald C hS et9 d_Mo_findPairs_93 ?_
      obtain ⟨h10, eh10, hM⟩ := bS hM
      have kJ105_6 : ∀ (H : Heap) (locs : List Loc) (ls : Array Slot), RS base D cI cZ s H locs h10 → lv_has ls 4 [(0, .ref (base + l0)), (1, .int l1), (2, .int l2), (3, .int l3)] → Wg l base D cI cZ 4 101 0 0 r none p e s m args below meth c H locs 0 0 (F0 m 105 ls []) := by
        intro H locs ls hS hl
        refine lv_iinc (v := (l3 + (1 : Int32))) (lv' := [(3, .int (l3 + (1 : Int32))), (0, .ref (base + l0)), (1, .int l1), (2, .int l2)]) hx hb d_Mo_findPairs_105 hl (k := 3) rfl (by rw [oi_1]) (by decide) rfl (fun ls hl => ?_)
        refine lv_goto (tgt := 67) hx hb d_Mo_findPairs_108 (by decide) ?_
        exact ih (l3 + (1 : Int32)) h10 hM _ _ _ hS (lv_sub hl [1, 2, 3, 0] rfl)
      refine lv_icmp_ne (tgt := 105) hx hb d_Mo_findPairs_94 (by decide) (fun c94_7 => ?_) (fun c94_7 => ?_)
      · rw [if_neg c94_7] at eh10
        obtain rfl := Option.some.inj eh10
        exact kJ105_6 _ _ _ hS (lv_sub hl [0, 1, 2, 3] rfl)
      · rw [if_pos c94_7] at eh10
        refine lv_aload_n hx hb d_Mo_findPairs_97 rfl (lv_at hl 0 rfl) ?_
        refine lv_iload_n hx hb d_Mo_findPairs_98 rfl (lv_at hl 1 rfl) ?_
        refine lv_iload_n hx hb d_Mo_findPairs_99 rfl (lv_at hl 2 rfl) ?_
        refine lv_iload_n hx hb d_Mo_findPairs_100 rfl (lv_at hl 3 rfl) ?_
        refine lv_iconst (v := (0 : Int32)) hx hb d_Mo_findPairs_101 (by decide) ?_
        obtain ⟨h11, eh11, eh10⟩ := bS eh10
        refine r_callVv C hS cv_Mo_166 (c_Mo_join l base D cI cZ h l0 l1 l2 l3 (0 : Int32) eh11) (o_Mo_join eh11) (rest := []) rfl hl.1 rfl (Nat.le_of_ble_eq_true rfl) ⟨(Nat.le_of_ble_eq_true rfl), (Nat.le_of_ble_eq_true rfl)⟩ ⟨(Nat.le_of_ble_eq_true rfl), (Nat.le_of_ble_eq_true rfl)⟩ d_Mo_findPairs_102 (fun H locs hS => ?_)
        obtain rfl := Option.some.inj eh10
        exact kJ105_6 _ _ _ hS (lv_sub hl [0, 1, 2, 3] rfl)
def f_Mo_findPairs_55 (l0 : Nat) (l1 : Int32) : Nat → Int32 → Hp → Option Hp
  | 0, _, _ => none
  | n + 1, l2, h =>
    (gR h 9 l0 2).bind fun t1 =>
    (gA h false t1 (0 : Int32)).bind fun t2 =>
    if t2 ≤ l2 then (
      f_Mo_findPairs_119 l0 l1 FU (1 : Int32) h
    ) else (
      f_Mo_findPairs_67 l0 l1 l2 (fun l2 h => f_Mo_findPairs_55 l0 l1 n l2 h) FU (0 : Int32) h
    )
set_option maxHeartbeats 4000000 in
set_option maxRecDepth 100000 in
theorem t_Mo_findPairs_55 {l0 : Nat} {l1 : Int32} {r : Hp} (C : Cx base D cI cZ b_Mo_findPairs 4 "MovedFoldersModel" "findPairs" none p s m args meth c)  : ∀ (n : Nat) (l2 : Int32) (h : Hp), f_Mo_findPairs_55 l0 l1 n l2 h = some r → ∀ (H : Heap) (locs : List Loc) (ls : Array Slot), RS base D cI cZ s H locs h → lv_has ls 4 [(0, .ref (base + l0)), (1, .int l1), (2, .int l2)] → Wg l base D cI cZ 4 101 0 0 r none p e s m args below meth c H locs 0 0 (F0 m 55 ls []) := by
  have hx := C.1
  have hb := C.2.1
  intro n
  induction n with
  | zero =>
    intro l2 h hM
    rw [f_Mo_findPairs_55] at hM
    cases hM
  | succ n ih =>
    intro l2 h hM H locs ls hS hl
    rw [f_Mo_findPairs_55] at hM
    refine lv_iload_n hx hb d_Mo_findPairs_55 rfl (lv_at hl 2 rfl) ?_
    refine lv_aload_n hx hb d_Mo_findPairs_56 rfl (lv_at hl 0 rfl) ?_
    obtain ⟨t1, et1, hM⟩ := bS hM
    refine r_getR C hS fl_Mo_16 et1 d_Mo_findPairs_57 ?_
    refine lv_iconst (v := (0 : Int32)) hx hb d_Mo_findPairs_60 (by decide) ?_
    obtain ⟨t2, et2, hM⟩ := bS hM
    refine r_iald C hS et2 d_Mo_findPairs_61 ?_
    refine lv_icmp_ge (tgt := 117) hx hb d_Mo_findPairs_62 (by decide) (fun c62_2 => ?_) (fun c62_2 => ?_)
    · rw [if_pos c62_2] at hM
      refine lv_iconst (v := (1 : Int32)) hx hb d_Mo_findPairs_117 (by decide) ?_
      refine lv_istore_n (lv' := [(2, .int (1 : Int32)), (0, .ref (base + l0)), (1, .int l1)]) hx hb d_Mo_findPairs_118 rfl hl (by decide) rfl (fun ls hl => ?_)
      exact t_Mo_findPairs_119  C  FU (1 : Int32) h hM _ _ _ hS (lv_sub hl [1, 2, 0] rfl)
    · rw [if_neg c62_2] at hM
      refine lv_iconst (v := (0 : Int32)) hx hb d_Mo_findPairs_65 (by decide) ?_
      refine lv_istore_n (lv' := [(3, .int (0 : Int32)), (0, .ref (base + l0)), (1, .int l1), (2, .int l2)]) hx hb d_Mo_findPairs_66 rfl hl (by decide) rfl (fun ls hl => ?_)
      exact t_Mo_findPairs_67 (k55 := (fun l2 h => f_Mo_findPairs_55 l0 l1 n l2 h)) C ih FU (0 : Int32) h hM _ _ _ hS (lv_sub hl [1, 2, 3, 0] rfl)
def f_Mo_findPairs_2 (l0 : Nat) (l1 : Int32) : Nat → Int32 → Hp → Option Hp
  | 0, _, _ => none
  | n + 1, l2, h =>
    if (12 : Int32) ≤ l2 then (
      f_Mo_findPairs_55 l0 l1 FU (0 : Int32) h
    ) else (
      (gR h 9 l0 11).bind fun t12 =>
      (sA h t12 (((12 : Int32) * l1) + l2) (-6 : Int32)).bind fun h13 =>
      (gR h13 9 l0 12).bind fun t14 =>
      (sA h13 t14 (((12 : Int32) * l1) + l2) (-6 : Int32)).bind fun h15 =>
      (gR h15 9 l0 13).bind fun t16 =>
      (sA h15 t16 (((12 : Int32) * l1) + l2) (-6 : Int32)).bind fun h17 =>
      f_Mo_findPairs_2 l0 l1 n (l2 + (1 : Int32)) h17
    )
set_option maxHeartbeats 4000000 in
set_option maxRecDepth 100000 in
theorem t_Mo_findPairs_2 {l0 : Nat} {l1 : Int32} {r : Hp} (C : Cx base D cI cZ b_Mo_findPairs 4 "MovedFoldersModel" "findPairs" none p s m args meth c)  : ∀ (n : Nat) (l2 : Int32) (h : Hp), f_Mo_findPairs_2 l0 l1 n l2 h = some r → ∀ (H : Heap) (locs : List Loc) (ls : Array Slot), RS base D cI cZ s H locs h → lv_has ls 4 [(0, .ref (base + l0)), (1, .int l1), (2, .int l2)] → Wg l base D cI cZ 4 101 0 0 r none p e s m args below meth c H locs 0 0 (F0 m 2 ls []) := by
  have hx := C.1
  have hb := C.2.1
  intro n
  induction n with
  | zero =>
    intro l2 h hM
    rw [f_Mo_findPairs_2] at hM
    cases hM
  | succ n ih =>
    intro l2 h hM H locs ls hS hl
    rw [f_Mo_findPairs_2] at hM
    refine lv_iload_n hx hb d_Mo_findPairs_2 rfl (lv_at hl 2 rfl) ?_
    refine lv_bipush (v := (12 : Int32)) hx hb d_Mo_findPairs_3 (by decide) ?_
    refine lv_icmp_ge (tgt := 53) hx hb d_Mo_findPairs_5 (by decide) (fun c5_1 => ?_) (fun c5_1 => ?_)
    · rw [if_pos c5_1] at hM
      refine lv_iconst (v := (0 : Int32)) hx hb d_Mo_findPairs_53 (by decide) ?_
      refine lv_istore_n (lv' := [(2, .int (0 : Int32)), (0, .ref (base + l0)), (1, .int l1)]) hx hb d_Mo_findPairs_54 rfl hl (by decide) rfl (fun ls hl => ?_)
      exact t_Mo_findPairs_55  C  FU (0 : Int32) h hM _ _ _ hS (lv_sub hl [1, 2, 0] rfl)
    · rw [if_neg c5_1] at hM
      refine lv_aload_n hx hb d_Mo_findPairs_8 rfl (lv_at hl 0 rfl) ?_
      obtain ⟨t12, et12, hM⟩ := bS hM
      refine r_getR C hS fl_Mo_26 et12 d_Mo_findPairs_9 ?_
      refine lv_bipush (v := (12 : Int32)) hx hb d_Mo_findPairs_12 (by decide) ?_
      refine lv_iload_n hx hb d_Mo_findPairs_14 rfl (lv_at hl 1 rfl) ?_
      refine lv_imul hx hb d_Mo_findPairs_15 ?_
      refine lv_iload_n hx hb d_Mo_findPairs_16 rfl (lv_at hl 2 rfl) ?_
      refine lv_iadd hx hb d_Mo_findPairs_17 ?_
      refine lv_bipush (v := (-6 : Int32)) hx hb d_Mo_findPairs_18 (by decide) ?_
      obtain ⟨h13, eh13, hM⟩ := bS hM
      refine r_iast C hS eh13 d_Mo_findPairs_20 (fun H locs hS => ?_)
      refine lv_aload_n hx hb d_Mo_findPairs_21 rfl (lv_at hl 0 rfl) ?_
      obtain ⟨t14, et14, hM⟩ := bS hM
      refine r_getR C hS fl_Mo_29 et14 d_Mo_findPairs_22 ?_
      refine lv_bipush (v := (12 : Int32)) hx hb d_Mo_findPairs_25 (by decide) ?_
      refine lv_iload_n hx hb d_Mo_findPairs_27 rfl (lv_at hl 1 rfl) ?_
      refine lv_imul hx hb d_Mo_findPairs_28 ?_
      refine lv_iload_n hx hb d_Mo_findPairs_29 rfl (lv_at hl 2 rfl) ?_
      refine lv_iadd hx hb d_Mo_findPairs_30 ?_
      refine lv_bipush (v := (-6 : Int32)) hx hb d_Mo_findPairs_31 (by decide) ?_
      obtain ⟨h15, eh15, hM⟩ := bS hM
      refine r_iast C hS eh15 d_Mo_findPairs_33 (fun H locs hS => ?_)
      refine lv_aload_n hx hb d_Mo_findPairs_34 rfl (lv_at hl 0 rfl) ?_
      obtain ⟨t16, et16, hM⟩ := bS hM
      refine r_getR C hS fl_Mo_32 et16 d_Mo_findPairs_35 ?_
      refine lv_bipush (v := (12 : Int32)) hx hb d_Mo_findPairs_38 (by decide) ?_
      refine lv_iload_n hx hb d_Mo_findPairs_40 rfl (lv_at hl 1 rfl) ?_
      refine lv_imul hx hb d_Mo_findPairs_41 ?_
      refine lv_iload_n hx hb d_Mo_findPairs_42 rfl (lv_at hl 2 rfl) ?_
      refine lv_iadd hx hb d_Mo_findPairs_43 ?_
      refine lv_bipush (v := (-6 : Int32)) hx hb d_Mo_findPairs_44 (by decide) ?_
      obtain ⟨h17, eh17, hM⟩ := bS hM
      refine r_iast C hS eh17 d_Mo_findPairs_46 (fun H locs hS => ?_)
      refine lv_iinc (v := (l2 + (1 : Int32))) (lv' := [(2, .int (l2 + (1 : Int32))), (0, .ref (base + l0)), (1, .int l1)]) hx hb d_Mo_findPairs_47 hl (k := 2) rfl (by rw [oi_1]) (by decide) rfl (fun ls hl => ?_)
      refine lv_goto (tgt := 2) hx hb d_Mo_findPairs_50 (by decide) ?_
      exact ih (l2 + (1 : Int32)) h17 hM _ _ _ hS (lv_sub hl [1, 2, 0] rfl)
def f_Mo_findPairs (h : Hp) (l0 : Nat) (l1 : Int32) : Option Hp :=
  ck h 9 l0 (
    f_Mo_findPairs_2 l0 l1 FU (0 : Int32) h
  )
theorem o_Mo_findPairs {h : Hp} {l0 : Nat} {l1 : Int32} {r : Hp} (hM : f_Mo_findPairs h l0 l1 = some r) : isO h 9 l0 = true := by
  unfold f_Mo_findPairs at hM
  exact (ck_some hM).1
set_option maxHeartbeats 4000000 in
set_option maxRecDepth 100000 in
theorem t_Mo_findPairs {h : Hp} {l0 : Nat} {l1 : Int32} {r : Hp} (C : Cx base D cI cZ b_Mo_findPairs 4 "MovedFoldersModel" "findPairs" none p s m args meth c) (hM : f_Mo_findPairs h l0 l1 = some r) (H : Heap) (locs : List Loc) (ls : Array Slot) (hS : RS base D cI cZ s H locs h) (hl : lv_has ls 4 [(0, .ref (base + l0)), (1, .int l1)]) : Wg l base D cI cZ 4 101 0 0 r none p e s m args below meth c H locs 0 0 (F0 m 0 ls []) := by
  have hx := C.1
  have hb := C.2.1
  unfold f_Mo_findPairs at hM
  replace hM := (ck_some hM).2
  refine lv_iconst (v := (0 : Int32)) hx hb d_Mo_findPairs_0 (by decide) ?_
  refine lv_istore_n (lv' := [(2, .int (0 : Int32)), (0, .ref (base + l0)), (1, .int l1)]) hx hb d_Mo_findPairs_1 rfl hl (by decide) rfl (fun ls hl => ?_)
  exact t_Mo_findPairs_2  C  FU (0 : Int32) h hM _ _ _ hS (lv_sub hl [1, 2, 0] rfl)
theorem c_Mo_findPairs (l : Launch) (base : Nat) (D : va_G) (cI cZ : ClassId) (h : Hp) (l0 : Nat) (l1 : Int32) {r : Hp} (hM : f_Mo_findPairs h l0 l1 = some r) : Ct l base D cI cZ y_Mo_findPairs b_Mo_findPairs 4 none 4 101 0 0 h [.ref (base + l0), .int l1] r none :=
  ct_of (by decide) (Nat.le_of_ble_eq_true rfl) (fun p e s m below meth c ls C hS hl => t_Mo_findPairs C hM _ _ _ hS hl)
theorem d_Mo_pair_0 : decode b_Mo_pair 0 = .ok (.iload_n 1, 1) := by decide +kernel
theorem d_Mo_pair_1 : decode b_Mo_pair 1 = .ok (.invokestatic 135, 3) := by decide +kernel
theorem d_Mo_pair_4 : decode b_Mo_pair 4 = .ok (.ifCond .eq 12, 3) := by decide +kernel
theorem d_Mo_pair_7 : decode b_Mo_pair 7 = .ok (.aload_n 0, 1) := by decide +kernel
theorem d_Mo_pair_8 : decode b_Mo_pair 8 = .ok (.iconst 0, 1) := by decide +kernel
theorem d_Mo_pair_9 : decode b_Mo_pair 9 = .ok (.iload_n 2, 1) := by decide +kernel
theorem d_Mo_pair_10 : decode b_Mo_pair 10 = .ok (.invokevirtual 128, 3) := by decide +kernel
theorem d_Mo_pair_13 : decode b_Mo_pair 13 = .ok (.ifCond .ne 5, 3) := by decide +kernel
theorem d_Mo_pair_16 : decode b_Mo_pair 16 = .ok (.iconst (-1), 1) := by decide +kernel
theorem d_Mo_pair_17 : decode b_Mo_pair 17 = .ok (.ireturn, 1) := by decide +kernel
theorem d_Mo_pair_18 : decode b_Mo_pair 18 = .ok (.iload_n 3, 1) := by decide +kernel
theorem d_Mo_pair_19 : decode b_Mo_pair 19 = .ok (.i2l, 1) := by decide +kernel
theorem d_Mo_pair_20 : decode b_Mo_pair 20 = .ok (.lconst 0, 1) := by decide +kernel
theorem d_Mo_pair_21 : decode b_Mo_pair 21 = .ok (.lconst 1, 1) := by decide +kernel
theorem d_Mo_pair_22 : decode b_Mo_pair 22 = .ok (.invokestatic 65, 3) := by decide +kernel
theorem d_Mo_pair_25 : decode b_Mo_pair 25 = .ok (.ifCond .ne 6, 3) := by decide +kernel
theorem d_Mo_pair_28 : decode b_Mo_pair 28 = .ok (.bipush (-2), 2) := by decide +kernel
theorem d_Mo_pair_30 : decode b_Mo_pair 30 = .ok (.ireturn, 1) := by decide +kernel
theorem d_Mo_pair_31 : decode b_Mo_pair 31 = .ok (.aload_n 0, 1) := by decide +kernel
theorem d_Mo_pair_32 : decode b_Mo_pair 32 = .ok (.iload_n 1, 1) := by decide +kernel
theorem d_Mo_pair_33 : decode b_Mo_pair 33 = .ok (.invokevirtual 172, 3) := by decide +kernel
theorem d_Mo_pair_36 : decode b_Mo_pair 36 = .ok (.iload_n 3, 1) := by decide +kernel
theorem d_Mo_pair_37 : decode b_Mo_pair 37 = .ok (.ifCond .ne 17, 3) := by decide +kernel
theorem d_Mo_pair_40 : decode b_Mo_pair 40 = .ok (.aload_n 0, 1) := by decide +kernel
theorem d_Mo_pair_41 : decode b_Mo_pair 41 = .ok (.getfield 26, 3) := by decide +kernel
theorem d_Mo_pair_44 : decode b_Mo_pair 44 = .ok (.bipush 12, 2) := by decide +kernel
theorem d_Mo_pair_46 : decode b_Mo_pair 46 = .ok (.iload_n 1, 1) := by decide +kernel
theorem d_Mo_pair_47 : decode b_Mo_pair 47 = .ok (.imul, 1) := by decide +kernel
theorem d_Mo_pair_48 : decode b_Mo_pair 48 = .ok (.iload_n 2, 1) := by decide +kernel
theorem d_Mo_pair_49 : decode b_Mo_pair 49 = .ok (.iadd, 1) := by decide +kernel
theorem d_Mo_pair_50 : decode b_Mo_pair 50 = .ok (.iaload, 1) := by decide +kernel
theorem d_Mo_pair_51 : decode b_Mo_pair 51 = .ok (.goto 14, 3) := by decide +kernel
theorem d_Mo_pair_54 : decode b_Mo_pair 54 = .ok (.aload_n 0, 1) := by decide +kernel
theorem d_Mo_pair_55 : decode b_Mo_pair 55 = .ok (.getfield 29, 3) := by decide +kernel
theorem d_Mo_pair_58 : decode b_Mo_pair 58 = .ok (.bipush 12, 2) := by decide +kernel
theorem d_Mo_pair_60 : decode b_Mo_pair 60 = .ok (.iload_n 1, 1) := by decide +kernel
theorem d_Mo_pair_61 : decode b_Mo_pair 61 = .ok (.imul, 1) := by decide +kernel
theorem d_Mo_pair_62 : decode b_Mo_pair 62 = .ok (.iload_n 2, 1) := by decide +kernel
theorem d_Mo_pair_63 : decode b_Mo_pair 63 = .ok (.iadd, 1) := by decide +kernel
theorem d_Mo_pair_64 : decode b_Mo_pair 64 = .ok (.iaload, 1) := by decide +kernel
theorem d_Mo_pair_65 : decode b_Mo_pair 65 = .ok (.ireturn, 1) := by decide +kernel
def f_Mo_pair (h : Hp) (l0 : Nat) (l1 : Int32) (l2 : Int32) (l3 : Int32) : Option (Int32 × Hp) :=
  ck h 9 l0 (
    (f_Mo_isSide l1).bind fun t1 =>
    if t1 = (0 : Int32) then (
      some ((-1 : Int32), h)
    ) else (
      (f_Mo_isFile h l0 (0 : Int32) l2).bind fun t2 =>
      if t2 = (0 : Int32) then (
        some ((-1 : Int32), h)
      ) else (
        (f_Mo_in (l3.toInt64) (0 : Int64) (1 : Int64)).bind fun t3 =>
        if t3 = (0 : Int32) then (
          some ((-2 : Int32), h)
        ) else (
          (f_Mo_findPairs h l0 l1).bind fun h4 =>
          (
            if l3 = (0 : Int32) then (
              (gR h4 9 l0 11).bind fun t8 =>
              (gA h4 false t8 (((12 : Int32) * l1) + l2)).bind fun t9 =>
              some t9
            ) else (
              (gR h4 9 l0 12).bind fun t6 =>
              (gA h4 false t6 (((12 : Int32) * l1) + l2)).bind fun t7 =>
              some t7
            )
          ).bind fun t5 =>
          some (t5, h4)
        )
      )
    )
  )
theorem o_Mo_pair {h : Hp} {l0 : Nat} {l1 : Int32} {l2 : Int32} {l3 : Int32} {r : (Int32 × Hp)} (hM : f_Mo_pair h l0 l1 l2 l3 = some r) : isO h 9 l0 = true := by
  unfold f_Mo_pair at hM
  exact (ck_some hM).1
set_option maxHeartbeats 4000000 in
set_option maxRecDepth 100000 in
theorem t_Mo_pair {h : Hp} {l0 : Nat} {l1 : Int32} {l2 : Int32} {l3 : Int32} {r : (Int32 × Hp)} (C : Cx base D cI cZ b_Mo_pair 4 "MovedFoldersModel" "pair" (some .int) p s m args meth c) (hM : f_Mo_pair h l0 l1 l2 l3 = some r) (H : Heap) (locs : List Loc) (ls : Array Slot) (hS : RS base D cI cZ s H locs h) (hl : lv_has ls 4 [(0, .ref (base + l0)), (1, .int l1), (2, .int l2), (3, .int l3)]) : Wg l base D cI cZ 5 124 0 0 r.2 (some (.int r.1)) p e s m args below meth c H locs 0 0 (F0 m 0 ls []) := by
  have hx := C.1
  have hb := C.2.1
  unfold f_Mo_pair at hM
  replace hM := (ck_some hM).2
  refine lv_iload_n hx hb d_Mo_pair_0 rfl (lv_at hl 1 rfl) ?_
  obtain ⟨t1, et1, hM⟩ := bS hM
  refine r_callSi (x := t1) C hS cs_Mo_135 (c_Mo_isSide l base D cI cZ h l1 et1) (rest := []) rfl hl.1 rfl (Nat.le_of_ble_eq_true rfl) ⟨(Nat.le_of_ble_eq_true rfl), (Nat.le_of_ble_eq_true rfl)⟩ ⟨(Nat.le_of_ble_eq_true rfl), (Nat.le_of_ble_eq_true rfl)⟩ d_Mo_pair_1 (fun H locs hS => ?_)
  refine lv_if_eq (tgt := 16) hx hb d_Mo_pair_4 (by decide) (fun c4_1 => ?_) (fun c4_1 => ?_)
  · rw [if_pos c4_1] at hM
    refine lv_iconst (v := (-1 : Int32)) hx hb d_Mo_pair_16 (by decide) ?_
    obtain rfl := Option.some.inj hM
    exact r_iret C hS d_Mo_pair_17
  · rw [if_neg c4_1] at hM
    refine lv_aload_n hx hb d_Mo_pair_7 rfl (lv_at hl 0 rfl) ?_
    refine lv_iconst (v := (0 : Int32)) hx hb d_Mo_pair_8 (by decide) ?_
    refine lv_iload_n hx hb d_Mo_pair_9 rfl (lv_at hl 2 rfl) ?_
    obtain ⟨t2, et2, hM⟩ := bS hM
    refine r_callVi (x := t2) C hS cv_Mo_128 (c_Mo_isFile l base D cI cZ h l0 (0 : Int32) l2 et2) (o_Mo_isFile et2) (rest := []) rfl hl.1 rfl (Nat.le_of_ble_eq_true rfl) ⟨(Nat.le_of_ble_eq_true rfl), (Nat.le_of_ble_eq_true rfl)⟩ ⟨(Nat.le_of_ble_eq_true rfl), (Nat.le_of_ble_eq_true rfl)⟩ d_Mo_pair_10 (fun H locs hS => ?_)
    refine lv_if_ne (tgt := 18) hx hb d_Mo_pair_13 (by decide) (fun c13_2 => ?_) (fun c13_2 => ?_)
    · rw [if_neg c13_2] at hM
      refine lv_iload_n hx hb d_Mo_pair_18 rfl (lv_at hl 3 rfl) ?_
      refine lv_i2l (v := (l3.toInt64)) hx hb d_Mo_pair_19 rfl ?_
      refine lv_lconst (v := (0 : Int64)) hx hb d_Mo_pair_20 (by decide) ?_
      refine lv_lconst (v := (1 : Int64)) hx hb d_Mo_pair_21 (by decide) ?_
      obtain ⟨t3, et3, hM⟩ := bS hM
      refine r_callSi (x := t3) C hS cs_Mo_65 (c_Mo_in l base D cI cZ h (l3.toInt64) (0 : Int64) (1 : Int64) et3) (rest := []) rfl hl.1 rfl (Nat.le_of_ble_eq_true rfl) ⟨(Nat.le_of_ble_eq_true rfl), (Nat.le_of_ble_eq_true rfl)⟩ ⟨(Nat.le_of_ble_eq_true rfl), (Nat.le_of_ble_eq_true rfl)⟩ d_Mo_pair_22 (fun H locs hS => ?_)
      refine lv_if_ne (tgt := 31) hx hb d_Mo_pair_25 (by decide) (fun c25_3 => ?_) (fun c25_3 => ?_)
      · rw [if_neg c25_3] at hM
        refine lv_aload_n hx hb d_Mo_pair_31 rfl (lv_at hl 0 rfl) ?_
        refine lv_iload_n hx hb d_Mo_pair_32 rfl (lv_at hl 1 rfl) ?_
        obtain ⟨h4, eh4, hM⟩ := bS hM
        refine r_callVv C hS cv_Mo_172 (c_Mo_findPairs l base D cI cZ h l0 l1 eh4) (o_Mo_findPairs eh4) (rest := []) rfl hl.1 rfl (Nat.le_of_ble_eq_true rfl) ⟨(Nat.le_of_ble_eq_true rfl), (Nat.le_of_ble_eq_true rfl)⟩ ⟨(Nat.le_of_ble_eq_true rfl), (Nat.le_of_ble_eq_true rfl)⟩ d_Mo_pair_33 (fun H locs hS => ?_)
        refine lv_iload_n hx hb d_Mo_pair_36 rfl (lv_at hl 3 rfl) ?_
        obtain ⟨t5, et5, hM⟩ := bS hM
        have kJ65_4 : ∀ (H : Heap) (locs : List Loc) (ls : Array Slot), RS base D cI cZ s H locs h4 → lv_has ls 4 [] → Wg l base D cI cZ 5 124 0 0 r.2 (some (.int r.1)) p e s m args below meth c H locs 0 0 (F0 m 65 ls [.int t5]) := by
          intro H locs ls hS hl
          obtain rfl := Option.some.inj hM
          exact r_iret C hS d_Mo_pair_65
        refine lv_if_ne (tgt := 54) hx hb d_Mo_pair_37 (by decide) (fun c37_5 => ?_) (fun c37_5 => ?_)
        · rw [if_neg c37_5] at et5
          refine lv_aload_n hx hb d_Mo_pair_54 rfl (lv_at hl 0 rfl) ?_
          obtain ⟨t6, et6, et5⟩ := bS et5
          refine r_getR C hS fl_Mo_29 et6 d_Mo_pair_55 ?_
          refine lv_bipush (v := (12 : Int32)) hx hb d_Mo_pair_58 (by decide) ?_
          refine lv_iload_n hx hb d_Mo_pair_60 rfl (lv_at hl 1 rfl) ?_
          refine lv_imul hx hb d_Mo_pair_61 ?_
          refine lv_iload_n hx hb d_Mo_pair_62 rfl (lv_at hl 2 rfl) ?_
          refine lv_iadd hx hb d_Mo_pair_63 ?_
          obtain ⟨t7, et7, et5⟩ := bS et5
          refine r_iald C hS et7 d_Mo_pair_64 ?_
          obtain rfl := Option.some.inj et5
          exact kJ65_4 _ _ _ hS (lv_sub hl [] rfl)
        · rw [if_pos c37_5] at et5
          refine lv_aload_n hx hb d_Mo_pair_40 rfl (lv_at hl 0 rfl) ?_
          obtain ⟨t8, et8, et5⟩ := bS et5
          refine r_getR C hS fl_Mo_26 et8 d_Mo_pair_41 ?_
          refine lv_bipush (v := (12 : Int32)) hx hb d_Mo_pair_44 (by decide) ?_
          refine lv_iload_n hx hb d_Mo_pair_46 rfl (lv_at hl 1 rfl) ?_
          refine lv_imul hx hb d_Mo_pair_47 ?_
          refine lv_iload_n hx hb d_Mo_pair_48 rfl (lv_at hl 2 rfl) ?_
          refine lv_iadd hx hb d_Mo_pair_49 ?_
          obtain ⟨t9, et9, et5⟩ := bS et5
          refine r_iald C hS et9 d_Mo_pair_50 ?_
          refine lv_goto (tgt := 65) hx hb d_Mo_pair_51 (by decide) ?_
          obtain rfl := Option.some.inj et5
          exact kJ65_4 _ _ _ hS (lv_sub hl [] rfl)
      · rw [if_pos c25_3] at hM
        refine lv_bipush (v := (-2 : Int32)) hx hb d_Mo_pair_28 (by decide) ?_
        obtain rfl := Option.some.inj hM
        exact r_iret C hS d_Mo_pair_30
    · rw [if_pos c13_2] at hM
      refine lv_iconst (v := (-1 : Int32)) hx hb d_Mo_pair_16 (by decide) ?_
      obtain rfl := Option.some.inj hM
      exact r_iret C hS d_Mo_pair_17
theorem c_Mo_pair (l : Launch) (base : Nat) (D : va_G) (cI cZ : ClassId) (h : Hp) (l0 : Nat) (l1 : Int32) (l2 : Int32) (l3 : Int32) {r : (Int32 × Hp)} (hM : f_Mo_pair h l0 l1 l2 l3 = some r) : Ct l base D cI cZ y_Mo_pair b_Mo_pair 4 (some .int) 5 124 0 0 h [.ref (base + l0), .int l1, .int l2, .int l3] r.2 (some (.int r.1)) :=
  ct_of (by decide) (Nat.le_of_ble_eq_true rfl) (fun p e s m below meth c ls C hS hl => t_Mo_pair C hM _ _ _ hS hl)
theorem d_Mo_origin_0 : decode b_Mo_origin 0 = .ok (.iload_n 1, 1) := by decide +kernel
theorem d_Mo_origin_1 : decode b_Mo_origin 1 = .ok (.invokestatic 135, 3) := by decide +kernel
theorem d_Mo_origin_4 : decode b_Mo_origin 4 = .ok (.ifCond .eq 12, 3) := by decide +kernel
theorem d_Mo_origin_7 : decode b_Mo_origin 7 = .ok (.aload_n 0, 1) := by decide +kernel
theorem d_Mo_origin_8 : decode b_Mo_origin 8 = .ok (.iload_n 1, 1) := by decide +kernel
theorem d_Mo_origin_9 : decode b_Mo_origin 9 = .ok (.iload_n 2, 1) := by decide +kernel
theorem d_Mo_origin_10 : decode b_Mo_origin 10 = .ok (.invokevirtual 128, 3) := by decide +kernel
theorem d_Mo_origin_13 : decode b_Mo_origin 13 = .ok (.ifCond .ne 5, 3) := by decide +kernel
theorem d_Mo_origin_16 : decode b_Mo_origin 16 = .ok (.iconst (-1), 1) := by decide +kernel
theorem d_Mo_origin_17 : decode b_Mo_origin 17 = .ok (.ireturn, 1) := by decide +kernel
theorem d_Mo_origin_18 : decode b_Mo_origin 18 = .ok (.aload_n 0, 1) := by decide +kernel
theorem d_Mo_origin_19 : decode b_Mo_origin 19 = .ok (.iload_n 1, 1) := by decide +kernel
theorem d_Mo_origin_20 : decode b_Mo_origin 20 = .ok (.invokevirtual 172, 3) := by decide +kernel
theorem d_Mo_origin_23 : decode b_Mo_origin 23 = .ok (.aload_n 0, 1) := by decide +kernel
theorem d_Mo_origin_24 : decode b_Mo_origin 24 = .ok (.getfield 32, 3) := by decide +kernel
theorem d_Mo_origin_27 : decode b_Mo_origin 27 = .ok (.bipush 12, 2) := by decide +kernel
theorem d_Mo_origin_29 : decode b_Mo_origin 29 = .ok (.iload_n 1, 1) := by decide +kernel
theorem d_Mo_origin_30 : decode b_Mo_origin 30 = .ok (.imul, 1) := by decide +kernel
theorem d_Mo_origin_31 : decode b_Mo_origin 31 = .ok (.iload_n 2, 1) := by decide +kernel
theorem d_Mo_origin_32 : decode b_Mo_origin 32 = .ok (.iadd, 1) := by decide +kernel
theorem d_Mo_origin_33 : decode b_Mo_origin 33 = .ok (.iaload, 1) := by decide +kernel
theorem d_Mo_origin_34 : decode b_Mo_origin 34 = .ok (.ireturn, 1) := by decide +kernel
def f_Mo_origin (h : Hp) (l0 : Nat) (l1 : Int32) (l2 : Int32) : Option (Int32 × Hp) :=
  ck h 9 l0 (
    (f_Mo_isSide l1).bind fun t1 =>
    if t1 = (0 : Int32) then (
      some ((-1 : Int32), h)
    ) else (
      (f_Mo_isFile h l0 l1 l2).bind fun t2 =>
      if t2 = (0 : Int32) then (
        some ((-1 : Int32), h)
      ) else (
        (f_Mo_findPairs h l0 l1).bind fun h3 =>
        (gR h3 9 l0 13).bind fun t4 =>
        (gA h3 false t4 (((12 : Int32) * l1) + l2)).bind fun t5 =>
        some (t5, h3)
      )
    )
  )
theorem o_Mo_origin {h : Hp} {l0 : Nat} {l1 : Int32} {l2 : Int32} {r : (Int32 × Hp)} (hM : f_Mo_origin h l0 l1 l2 = some r) : isO h 9 l0 = true := by
  unfold f_Mo_origin at hM
  exact (ck_some hM).1
set_option maxHeartbeats 4000000 in
set_option maxRecDepth 100000 in
theorem t_Mo_origin {h : Hp} {l0 : Nat} {l1 : Int32} {l2 : Int32} {r : (Int32 × Hp)} (C : Cx base D cI cZ b_Mo_origin 3 "MovedFoldersModel" "origin" (some .int) p s m args meth c) (hM : f_Mo_origin h l0 l1 l2 = some r) (H : Heap) (locs : List Loc) (ls : Array Slot) (hS : RS base D cI cZ s H locs h) (hl : lv_has ls 3 [(0, .ref (base + l0)), (1, .int l1), (2, .int l2)]) : Wg l base D cI cZ 5 124 0 0 r.2 (some (.int r.1)) p e s m args below meth c H locs 0 0 (F0 m 0 ls []) := by
  have hx := C.1
  have hb := C.2.1
  unfold f_Mo_origin at hM
  replace hM := (ck_some hM).2
  refine lv_iload_n hx hb d_Mo_origin_0 rfl (lv_at hl 1 rfl) ?_
  obtain ⟨t1, et1, hM⟩ := bS hM
  refine r_callSi (x := t1) C hS cs_Mo_135 (c_Mo_isSide l base D cI cZ h l1 et1) (rest := []) rfl hl.1 rfl (Nat.le_of_ble_eq_true rfl) ⟨(Nat.le_of_ble_eq_true rfl), (Nat.le_of_ble_eq_true rfl)⟩ ⟨(Nat.le_of_ble_eq_true rfl), (Nat.le_of_ble_eq_true rfl)⟩ d_Mo_origin_1 (fun H locs hS => ?_)
  refine lv_if_eq (tgt := 16) hx hb d_Mo_origin_4 (by decide) (fun c4_1 => ?_) (fun c4_1 => ?_)
  · rw [if_pos c4_1] at hM
    refine lv_iconst (v := (-1 : Int32)) hx hb d_Mo_origin_16 (by decide) ?_
    obtain rfl := Option.some.inj hM
    exact r_iret C hS d_Mo_origin_17
  · rw [if_neg c4_1] at hM
    refine lv_aload_n hx hb d_Mo_origin_7 rfl (lv_at hl 0 rfl) ?_
    refine lv_iload_n hx hb d_Mo_origin_8 rfl (lv_at hl 1 rfl) ?_
    refine lv_iload_n hx hb d_Mo_origin_9 rfl (lv_at hl 2 rfl) ?_
    obtain ⟨t2, et2, hM⟩ := bS hM
    refine r_callVi (x := t2) C hS cv_Mo_128 (c_Mo_isFile l base D cI cZ h l0 l1 l2 et2) (o_Mo_isFile et2) (rest := []) rfl hl.1 rfl (Nat.le_of_ble_eq_true rfl) ⟨(Nat.le_of_ble_eq_true rfl), (Nat.le_of_ble_eq_true rfl)⟩ ⟨(Nat.le_of_ble_eq_true rfl), (Nat.le_of_ble_eq_true rfl)⟩ d_Mo_origin_10 (fun H locs hS => ?_)
    refine lv_if_ne (tgt := 18) hx hb d_Mo_origin_13 (by decide) (fun c13_2 => ?_) (fun c13_2 => ?_)
    · rw [if_neg c13_2] at hM
      refine lv_aload_n hx hb d_Mo_origin_18 rfl (lv_at hl 0 rfl) ?_
      refine lv_iload_n hx hb d_Mo_origin_19 rfl (lv_at hl 1 rfl) ?_
      obtain ⟨h3, eh3, hM⟩ := bS hM
      refine r_callVv C hS cv_Mo_172 (c_Mo_findPairs l base D cI cZ h l0 l1 eh3) (o_Mo_findPairs eh3) (rest := []) rfl hl.1 rfl (Nat.le_of_ble_eq_true rfl) ⟨(Nat.le_of_ble_eq_true rfl), (Nat.le_of_ble_eq_true rfl)⟩ ⟨(Nat.le_of_ble_eq_true rfl), (Nat.le_of_ble_eq_true rfl)⟩ d_Mo_origin_20 (fun H locs hS => ?_)
      refine lv_aload_n hx hb d_Mo_origin_23 rfl (lv_at hl 0 rfl) ?_
      obtain ⟨t4, et4, hM⟩ := bS hM
      refine r_getR C hS fl_Mo_32 et4 d_Mo_origin_24 ?_
      refine lv_bipush (v := (12 : Int32)) hx hb d_Mo_origin_27 (by decide) ?_
      refine lv_iload_n hx hb d_Mo_origin_29 rfl (lv_at hl 1 rfl) ?_
      refine lv_imul hx hb d_Mo_origin_30 ?_
      refine lv_iload_n hx hb d_Mo_origin_31 rfl (lv_at hl 2 rfl) ?_
      refine lv_iadd hx hb d_Mo_origin_32 ?_
      obtain ⟨t5, et5, hM⟩ := bS hM
      refine r_iald C hS et5 d_Mo_origin_33 ?_
      obtain rfl := Option.some.inj hM
      exact r_iret C hS d_Mo_origin_34
    · rw [if_pos c13_2] at hM
      refine lv_iconst (v := (-1 : Int32)) hx hb d_Mo_origin_16 (by decide) ?_
      obtain rfl := Option.some.inj hM
      exact r_iret C hS d_Mo_origin_17
theorem c_Mo_origin (l : Launch) (base : Nat) (D : va_G) (cI cZ : ClassId) (h : Hp) (l0 : Nat) (l1 : Int32) (l2 : Int32) {r : (Int32 × Hp)} (hM : f_Mo_origin h l0 l1 l2 = some r) : Ct l base D cI cZ y_Mo_origin b_Mo_origin 3 (some .int) 5 124 0 0 h [.ref (base + l0), .int l1, .int l2] r.2 (some (.int r.1)) :=
  ct_of (by decide) (Nat.le_of_ble_eq_true rfl) (fun p e s m below meth c ls C hS hl => t_Mo_origin C hM _ _ _ hS hl)
end MM7
