section MM11
variable {l : Launch} {base : Nat} {D : va_G} {cI cZ : ClassId} {p : Program} {e : Env} {s : State} {m : MethodId} {args : Array Value} {below : List Frame} {meth : Method} {c : Code}
theorem d_Mo_told_0 : decode b_Mo_told 0 = .ok (.iload_n 1, 1) := by decide +kernel
theorem d_Mo_told_1 : decode b_Mo_told 1 = .ok (.i2l, 1) := by decide +kernel
theorem d_Mo_told_2 : decode b_Mo_told 2 = .ok (.ldc2_w 303, 3) := by decide +kernel
theorem d_Mo_told_5 : decode b_Mo_told 5 = .ok (.ldc2_w 305, 3) := by decide +kernel
theorem d_Mo_told_8 : decode b_Mo_told 8 = .ok (.invokestatic 65, 3) := by decide +kernel
theorem d_Mo_told_11 : decode b_Mo_told 11 = .ok (.ifCond .eq 13, 3) := by decide +kernel
theorem d_Mo_told_14 : decode b_Mo_told 14 = .ok (.aload_n 0, 1) := by decide +kernel
theorem d_Mo_told_15 : decode b_Mo_told 15 = .ok (.getfield 16, 3) := by decide +kernel
theorem d_Mo_told_18 : decode b_Mo_told 18 = .ok (.iload_n 1, 1) := by decide +kernel
theorem d_Mo_told_19 : decode b_Mo_told 19 = .ok (.bipush 10, 2) := by decide +kernel
theorem d_Mo_told_21 : decode b_Mo_told 21 = .ok (.isub, 1) := by decide +kernel
theorem d_Mo_told_22 : decode b_Mo_told 22 = .ok (.iaload, 1) := by decide +kernel
theorem d_Mo_told_23 : decode b_Mo_told 23 = .ok (.ireturn, 1) := by decide +kernel
theorem d_Mo_told_24 : decode b_Mo_told 24 = .ok (.iload_n 1, 1) := by decide +kernel
theorem d_Mo_told_25 : decode b_Mo_told 25 = .ok (.i2l, 1) := by decide +kernel
theorem d_Mo_told_26 : decode b_Mo_told 26 = .ok (.ldc2_w 307, 3) := by decide +kernel
theorem d_Mo_told_29 : decode b_Mo_told 29 = .ok (.ldc2_w 309, 3) := by decide +kernel
theorem d_Mo_told_32 : decode b_Mo_told 32 = .ok (.invokestatic 65, 3) := by decide +kernel
theorem d_Mo_told_35 : decode b_Mo_told 35 = .ok (.ifCond .eq 26, 3) := by decide +kernel
theorem d_Mo_told_38 : decode b_Mo_told 38 = .ok (.iload_n 1, 1) := by decide +kernel
theorem d_Mo_told_39 : decode b_Mo_told 39 = .ok (.bipush 10, 2) := by decide +kernel
theorem d_Mo_told_41 : decode b_Mo_told 41 = .ok (.irem, 1) := by decide +kernel
theorem d_Mo_told_42 : decode b_Mo_told 42 = .ok (.invokestatic 135, 3) := by decide +kernel
theorem d_Mo_told_45 : decode b_Mo_told 45 = .ok (.ifCond .eq 16, 3) := by decide +kernel
theorem d_Mo_told_48 : decode b_Mo_told 48 = .ok (.aload_n 0, 1) := by decide +kernel
theorem d_Mo_told_49 : decode b_Mo_told 49 = .ok (.iload_n 1, 1) := by decide +kernel
theorem d_Mo_told_50 : decode b_Mo_told 50 = .ok (.bipush 10, 2) := by decide +kernel
theorem d_Mo_told_52 : decode b_Mo_told 52 = .ok (.irem, 1) := by decide +kernel
theorem d_Mo_told_53 : decode b_Mo_told 53 = .ok (.iload_n 1, 1) := by decide +kernel
theorem d_Mo_told_54 : decode b_Mo_told 54 = .ok (.bipush 10, 2) := by decide +kernel
theorem d_Mo_told_56 : decode b_Mo_told 56 = .ok (.idiv, 1) := by decide +kernel
theorem d_Mo_told_57 : decode b_Mo_told 57 = .ok (.invokevirtual 311, 3) := by decide +kernel
theorem d_Mo_told_60 : decode b_Mo_told 60 = .ok (.ireturn, 1) := by decide +kernel
theorem d_Mo_told_61 : decode b_Mo_told 61 = .ok (.iload_n 1, 1) := by decide +kernel
theorem d_Mo_told_62 : decode b_Mo_told 62 = .ok (.ifCond .ne 10, 3) := by decide +kernel
theorem d_Mo_told_65 : decode b_Mo_told 65 = .ok (.aload_n 0, 1) := by decide +kernel
theorem d_Mo_told_66 : decode b_Mo_told 66 = .ok (.getfield 79, 3) := by decide +kernel
theorem d_Mo_told_69 : decode b_Mo_told 69 = .ok (.goto 17, 3) := by decide +kernel
theorem d_Mo_told_72 : decode b_Mo_told 72 = .ok (.iload_n 1, 1) := by decide +kernel
theorem d_Mo_told_73 : decode b_Mo_told 73 = .ok (.iconst 1, 1) := by decide +kernel
theorem d_Mo_told_74 : decode b_Mo_told 74 = .ok (.if_icmp .ne 10, 3) := by decide +kernel
theorem d_Mo_told_77 : decode b_Mo_told 77 = .ok (.aload_n 0, 1) := by decide +kernel
theorem d_Mo_told_78 : decode b_Mo_told 78 = .ok (.getfield 19, 3) := by decide +kernel
theorem d_Mo_told_81 : decode b_Mo_told 81 = .ok (.goto 5, 3) := by decide +kernel
theorem d_Mo_told_84 : decode b_Mo_told 84 = .ok (.bipush (-2), 2) := by decide +kernel
theorem d_Mo_told_86 : decode b_Mo_told 86 = .ok (.ireturn, 1) := by decide +kernel
def f_Mo_told_61 (h : Hp) (l0 : Nat) (l1 : Int32) : Option (Int32 × Hp) :=
  (
    if l1 = (0 : Int32) then (
      (gI h 9 l0 5).bind fun t5 =>
      some t5
    ) else (
      if l1 = (1 : Int32) then (
        (gI h 9 l0 3).bind fun t4 =>
        some t4
      ) else (
        some (-2 : Int32)
      )
    )
  ).bind fun t3 =>
  some (t3, h)
set_option maxHeartbeats 4000000 in
set_option maxRecDepth 100000 in
theorem t_Mo_told_61 {h : Hp} {l0 : Nat} {l1 : Int32} {r : (Int32 × Hp)} (C : Cx base D cI cZ b_Mo_told 2 "MovedFoldersModel" "told" (some .int) p s m args meth c)  (hM : f_Mo_told_61 h l0 l1 = some r) (H : Heap) (locs : List Loc) (ls : Array Slot) (hS : RS base D cI cZ s H locs h) (hl : lv_has ls 2 [(0, .ref (base + l0)), (1, .int l1)]) : Wg l base D cI cZ 7 168 0 0 r.2 (some (.int r.1)) p e s m args below meth c H locs 0 0 (F0 m 61 ls []) := by
  have hx := C.1
  have hb := C.2.1
  unfold f_Mo_told_61 at hM
  refine lv_iload_n hx hb d_Mo_told_61 rfl (lv_at hl 1 rfl) ?_
  obtain ⟨t3, et3, hM⟩ := bS hM
  have kJ86_3 : ∀ (H : Heap) (locs : List Loc) (ls : Array Slot), RS base D cI cZ s H locs h → lv_has ls 2 [] → Wg l base D cI cZ 7 168 0 0 r.2 (some (.int r.1)) p e s m args below meth c H locs 0 0 (F0 m 86 ls [.int t3]) := by
    intro H locs ls hS hl
    obtain rfl := Option.some.inj hM
    exact r_iret C hS d_Mo_told_86
  refine lv_if_ne (tgt := 72) hx hb d_Mo_told_62 (by decide) (fun c62_4 => ?_) (fun c62_4 => ?_)
  · rw [if_neg c62_4] at et3
    refine lv_iload_n hx hb d_Mo_told_72 rfl (lv_at hl 1 rfl) ?_
    refine lv_iconst (v := (1 : Int32)) hx hb d_Mo_told_73 (by decide) ?_
    refine lv_icmp_ne (tgt := 84) hx hb d_Mo_told_74 (by decide) (fun c74_5 => ?_) (fun c74_5 => ?_)
    · rw [if_neg c74_5] at et3
      refine lv_bipush (v := (-2 : Int32)) hx hb d_Mo_told_84 (by decide) ?_
      obtain rfl := Option.some.inj et3
      exact kJ86_3 _ _ _ hS (lv_sub hl [] rfl)
    · rw [if_pos c74_5] at et3
      refine lv_aload_n hx hb d_Mo_told_77 rfl (lv_at hl 0 rfl) ?_
      obtain ⟨t4, et4, et3⟩ := bS et3
      refine r_getI C hS fl_Mo_19 et4 d_Mo_told_78 ?_
      refine lv_goto (tgt := 86) hx hb d_Mo_told_81 (by decide) ?_
      obtain rfl := Option.some.inj et3
      exact kJ86_3 _ _ _ hS (lv_sub hl [] rfl)
  · rw [if_pos c62_4] at et3
    refine lv_aload_n hx hb d_Mo_told_65 rfl (lv_at hl 0 rfl) ?_
    obtain ⟨t5, et5, et3⟩ := bS et3
    refine r_getI C hS fl_Mo_79 et5 d_Mo_told_66 ?_
    refine lv_goto (tgt := 86) hx hb d_Mo_told_69 (by decide) ?_
    obtain rfl := Option.some.inj et3
    exact kJ86_3 _ _ _ hS (lv_sub hl [] rfl)
def f_Mo_told (h : Hp) (l0 : Nat) (l1 : Int32) : Option (Int32 × Hp) :=
  ck h 9 l0 (
    (f_Mo_in (l1.toInt64) (10 : Int64) (12 : Int64)).bind fun t1 =>
    if t1 = (0 : Int32) then (
      (f_Mo_in (l1.toInt64) (20 : Int64) (49 : Int64)).bind fun t2 =>
      if t2 = (0 : Int32) then (
        f_Mo_told_61 h l0 l1
      ) else (
        (f_Mo_isSide (irem l1 (10 : Int32))).bind fun t6 =>
        if t6 = (0 : Int32) then (
          f_Mo_told_61 h l0 l1
        ) else (
          (f_Mo_toldOfSide h l0 (irem l1 (10 : Int32)) (l1 / (10 : Int32))).bind fun q7 =>
          some (q7.1, q7.2)
        )
      )
    ) else (
      (gR h 9 l0 2).bind fun t8 =>
      (gA h false t8 (l1 - (10 : Int32))).bind fun t9 =>
      some (t9, h)
    )
  )
theorem o_Mo_told {h : Hp} {l0 : Nat} {l1 : Int32} {r : (Int32 × Hp)} (hM : f_Mo_told h l0 l1 = some r) : isO h 9 l0 = true := by
  unfold f_Mo_told at hM
  exact (ck_some hM).1
set_option maxHeartbeats 4000000 in
set_option maxRecDepth 100000 in
theorem t_Mo_told {h : Hp} {l0 : Nat} {l1 : Int32} {r : (Int32 × Hp)} (C : Cx base D cI cZ b_Mo_told 2 "MovedFoldersModel" "told" (some .int) p s m args meth c) (hM : f_Mo_told h l0 l1 = some r) (H : Heap) (locs : List Loc) (ls : Array Slot) (hS : RS base D cI cZ s H locs h) (hl : lv_has ls 2 [(0, .ref (base + l0)), (1, .int l1)]) : Wg l base D cI cZ 7 168 0 0 r.2 (some (.int r.1)) p e s m args below meth c H locs 0 0 (F0 m 0 ls []) := by
  have hx := C.1
  have hb := C.2.1
  unfold f_Mo_told at hM
  replace hM := (ck_some hM).2
  refine lv_iload_n hx hb d_Mo_told_0 rfl (lv_at hl 1 rfl) ?_
  refine lv_i2l (v := (l1.toInt64)) hx hb d_Mo_told_1 rfl ?_
  refine lv_ldc2 (v := (10 : Int64)) hx hb C.2.2.2.1 (C.2.2.2.2.1 _ kl_Mo_303) d_Mo_told_2 ?_
  refine lv_ldc2 (v := (12 : Int64)) hx hb C.2.2.2.1 (C.2.2.2.2.1 _ kl_Mo_305) d_Mo_told_5 ?_
  obtain ⟨t1, et1, hM⟩ := bS hM
  refine r_callSi (x := t1) C hS cs_Mo_65 (c_Mo_in l base D cI cZ h (l1.toInt64) (10 : Int64) (12 : Int64) et1) (rest := []) rfl hl.1 rfl (Nat.le_of_ble_eq_true rfl) ⟨(Nat.le_of_ble_eq_true rfl), (Nat.le_of_ble_eq_true rfl)⟩ ⟨(Nat.le_of_ble_eq_true rfl), (Nat.le_of_ble_eq_true rfl)⟩ d_Mo_told_8 (fun H locs hS => ?_)
  refine lv_if_eq (tgt := 24) hx hb d_Mo_told_11 (by decide) (fun c11_1 => ?_) (fun c11_1 => ?_)
  · rw [if_pos c11_1] at hM
    refine lv_iload_n hx hb d_Mo_told_24 rfl (lv_at hl 1 rfl) ?_
    refine lv_i2l (v := (l1.toInt64)) hx hb d_Mo_told_25 rfl ?_
    refine lv_ldc2 (v := (20 : Int64)) hx hb C.2.2.2.1 (C.2.2.2.2.1 _ kl_Mo_307) d_Mo_told_26 ?_
    refine lv_ldc2 (v := (49 : Int64)) hx hb C.2.2.2.1 (C.2.2.2.2.1 _ kl_Mo_309) d_Mo_told_29 ?_
    obtain ⟨t2, et2, hM⟩ := bS hM
    refine r_callSi (x := t2) C hS cs_Mo_65 (c_Mo_in l base D cI cZ h (l1.toInt64) (20 : Int64) (49 : Int64) et2) (rest := []) rfl hl.1 rfl (Nat.le_of_ble_eq_true rfl) ⟨(Nat.le_of_ble_eq_true rfl), (Nat.le_of_ble_eq_true rfl)⟩ ⟨(Nat.le_of_ble_eq_true rfl), (Nat.le_of_ble_eq_true rfl)⟩ d_Mo_told_32 (fun H locs hS => ?_)
    refine lv_if_eq (tgt := 61) hx hb d_Mo_told_35 (by decide) (fun c35_2 => ?_) (fun c35_2 => ?_)
    · rw [if_pos c35_2] at hM
      exact t_Mo_told_61  C  hM _ _ _ hS (lv_sub hl [0, 1] rfl)
    · rw [if_neg c35_2] at hM
      refine lv_iload_n hx hb d_Mo_told_38 rfl (lv_at hl 1 rfl) ?_
      refine lv_bipush (v := (10 : Int32)) hx hb d_Mo_told_39 (by decide) ?_
      refine r_irem hx hb d_Mo_told_41 (by decide) ?_
      obtain ⟨t6, et6, hM⟩ := bS hM
      refine r_callSi (x := t6) C hS cs_Mo_135 (c_Mo_isSide l base D cI cZ h (irem l1 (10 : Int32)) et6) (rest := []) rfl hl.1 rfl (Nat.le_of_ble_eq_true rfl) ⟨(Nat.le_of_ble_eq_true rfl), (Nat.le_of_ble_eq_true rfl)⟩ ⟨(Nat.le_of_ble_eq_true rfl), (Nat.le_of_ble_eq_true rfl)⟩ d_Mo_told_42 (fun H locs hS => ?_)
      refine lv_if_eq (tgt := 61) hx hb d_Mo_told_45 (by decide) (fun c45_6 => ?_) (fun c45_6 => ?_)
      · rw [if_pos c45_6] at hM
        exact t_Mo_told_61  C  hM _ _ _ hS (lv_sub hl [0, 1] rfl)
      · rw [if_neg c45_6] at hM
        refine lv_aload_n hx hb d_Mo_told_48 rfl (lv_at hl 0 rfl) ?_
        refine lv_iload_n hx hb d_Mo_told_49 rfl (lv_at hl 1 rfl) ?_
        refine lv_bipush (v := (10 : Int32)) hx hb d_Mo_told_50 (by decide) ?_
        refine r_irem hx hb d_Mo_told_52 (by decide) ?_
        refine lv_iload_n hx hb d_Mo_told_53 rfl (lv_at hl 1 rfl) ?_
        refine lv_bipush (v := (10 : Int32)) hx hb d_Mo_told_54 (by decide) ?_
        refine lv_idiv hx hb d_Mo_told_56 (by decide) ?_
        obtain ⟨q7, eq7, hM⟩ := bS hM
        refine r_callVi (x := q7.1) C hS cv_Mo_311 (c_Mo_toldOfSide l base D cI cZ h l0 (irem l1 (10 : Int32)) (l1 / (10 : Int32)) eq7) (o_Mo_toldOfSide eq7) (rest := []) rfl hl.1 rfl (Nat.le_of_ble_eq_true rfl) ⟨(Nat.le_of_ble_eq_true rfl), (Nat.le_of_ble_eq_true rfl)⟩ ⟨(Nat.le_of_ble_eq_true rfl), (Nat.le_of_ble_eq_true rfl)⟩ d_Mo_told_57 (fun H locs hS => ?_)
        obtain rfl := Option.some.inj hM
        exact r_iret C hS d_Mo_told_60
  · rw [if_neg c11_1] at hM
    refine lv_aload_n hx hb d_Mo_told_14 rfl (lv_at hl 0 rfl) ?_
    obtain ⟨t8, et8, hM⟩ := bS hM
    refine r_getR C hS fl_Mo_16 et8 d_Mo_told_15 ?_
    refine lv_iload_n hx hb d_Mo_told_18 rfl (lv_at hl 1 rfl) ?_
    refine lv_bipush (v := (10 : Int32)) hx hb d_Mo_told_19 (by decide) ?_
    refine lv_isub hx hb d_Mo_told_21 ?_
    obtain ⟨t9, et9, hM⟩ := bS hM
    refine r_iald C hS et9 d_Mo_told_22 ?_
    obtain rfl := Option.some.inj hM
    exact r_iret C hS d_Mo_told_23
theorem c_Mo_told (l : Launch) (base : Nat) (D : va_G) (cI cZ : ClassId) (h : Hp) (l0 : Nat) (l1 : Int32) {r : (Int32 × Hp)} (hM : f_Mo_told h l0 l1 = some r) : Ct l base D cI cZ y_Mo_told b_Mo_told 2 (some .int) 7 168 0 0 h [.ref (base + l0), .int l1] r.2 (some (.int r.1)) :=
  ct_of (by decide) (Nat.le_of_ble_eq_true rfl) (fun p e s m below meth c ls C hS hl => t_Mo_told C hM _ _ _ hS hl)
end MM11
