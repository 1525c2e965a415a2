section MM1
variable {l : Launch} {base : Nat} {D : va_G} {cI cZ : ClassId} {p : Program} {e : Env} {s : State} {m : MethodId} {args : Array Value} {below : List Frame} {meth : Method} {c : Code}
theorem d_Tree_lay_0 : decode b_Tree_lay 0 = .ok (.aload_n 0, 1) := by decide +kernel
theorem d_Tree_lay_1 : decode b_Tree_lay 1 = .ok (.iload_n 1, 1) := by decide +kernel
theorem d_Tree_lay_2 : decode b_Tree_lay 2 = .ok (.invokevirtual 38, 3) := by decide +kernel
theorem d_Tree_lay_5 : decode b_Tree_lay 5 = .ok (.istore_n 3, 1) := by decide +kernel
theorem d_Tree_lay_6 : decode b_Tree_lay 6 = .ok (.iload_n 3, 1) := by decide +kernel
theorem d_Tree_lay_7 : decode b_Tree_lay 7 = .ok (.bipush (-6), 2) := by decide +kernel
theorem d_Tree_lay_9 : decode b_Tree_lay 9 = .ok (.if_icmp .ne 20, 3) := by decide +kernel
theorem d_Tree_lay_12 : decode b_Tree_lay 12 = .ok (.aload_n 0, 1) := by decide +kernel
theorem d_Tree_lay_13 : decode b_Tree_lay 13 = .ok (.getfield 18, 3) := by decide +kernel
theorem d_Tree_lay_16 : decode b_Tree_lay 16 = .ok (.bipush 12, 2) := by decide +kernel
theorem d_Tree_lay_18 : decode b_Tree_lay 18 = .ok (.if_icmp .lt 5, 3) := by decide +kernel
theorem d_Tree_lay_21 : decode b_Tree_lay 21 = .ok (.iconst 0, 1) := by decide +kernel
theorem d_Tree_lay_22 : decode b_Tree_lay 22 = .ok (.ireturn, 1) := by decide +kernel
theorem d_Tree_lay_23 : decode b_Tree_lay 23 = .ok (.aload_n 0, 1) := by decide +kernel
theorem d_Tree_lay_24 : decode b_Tree_lay 24 = .ok (.iload_n 1, 1) := by decide +kernel
theorem d_Tree_lay_25 : decode b_Tree_lay 25 = .ok (.invokevirtual 41, 3) := by decide +kernel
theorem d_Tree_lay_28 : decode b_Tree_lay 28 = .ok (.istore_n 3, 1) := by decide +kernel
theorem d_Tree_lay_29 : decode b_Tree_lay 29 = .ok (.aload_n 0, 1) := by decide +kernel
theorem d_Tree_lay_30 : decode b_Tree_lay 30 = .ok (.getfield 9, 3) := by decide +kernel
theorem d_Tree_lay_33 : decode b_Tree_lay 33 = .ok (.iload_n 3, 1) := by decide +kernel
theorem d_Tree_lay_34 : decode b_Tree_lay 34 = .ok (.iload_n 1, 1) := by decide +kernel
theorem d_Tree_lay_35 : decode b_Tree_lay 35 = .ok (.iastore, 1) := by decide +kernel
theorem d_Tree_lay_36 : decode b_Tree_lay 36 = .ok (.aload_n 0, 1) := by decide +kernel
theorem d_Tree_lay_37 : decode b_Tree_lay 37 = .ok (.getfield 15, 3) := by decide +kernel
theorem d_Tree_lay_40 : decode b_Tree_lay 40 = .ok (.iload_n 3, 1) := by decide +kernel
theorem d_Tree_lay_41 : decode b_Tree_lay 41 = .ok (.iload_n 2, 1) := by decide +kernel
theorem d_Tree_lay_42 : decode b_Tree_lay 42 = .ok (.iastore, 1) := by decide +kernel
theorem d_Tree_lay_43 : decode b_Tree_lay 43 = .ok (.iconst 1, 1) := by decide +kernel
theorem d_Tree_lay_44 : decode b_Tree_lay 44 = .ok (.ireturn, 1) := by decide +kernel
def f_Tree_lay_29 (h : Hp) (l0 : Nat) (l1 : Int32) (l2 : Int32) (l3 : Int32) : Option (Int32 × Hp) :=
  (gR h 7 l0 0).bind fun t2 =>
  (sA h t2 l3 l1).bind fun h3 =>
  (gR h3 7 l0 1).bind fun t4 =>
  (sA h3 t4 l3 l2).bind fun h5 =>
  (rz (1 : Int32)).bind fun t6 => some (t6, h5)
set_option maxHeartbeats 4000000 in
set_option maxRecDepth 100000 in
theorem t_Tree_lay_29 {h : Hp} {l0 : Nat} {l1 : Int32} {l2 : Int32} {l3 : Int32} {r : (Int32 × Hp)} (C : Cx base D cI cZ b_Tree_lay 4 "MovedFolders$Tree" "lay" (some .boolean) p s m args meth c)  (hM : f_Tree_lay_29 h l0 l1 l2 l3 = some r) (H : Heap) (locs : List Loc) (ls : Array Slot) (hS : RS base D cI cZ s H locs h) (hl : lv_has ls 4 [(0, .ref (base + l0)), (1, .int l1), (2, .int l2), (3, .int l3)]) : Wg l base D cI cZ 1 23 0 0 r.2 (some (.int r.1)) p e s m args below meth c H locs 0 0 (F0 m 29 ls []) := by
  have hx := C.1
  have hb := C.2.1
  unfold f_Tree_lay_29 at hM
  refine lv_aload_n hx hb d_Tree_lay_29 rfl (lv_at hl 0 rfl) ?_
  obtain ⟨t2, et2, hM⟩ := bS hM
  refine r_getR C hS fl_Tree_9 et2 d_Tree_lay_30 ?_
  refine lv_iload_n hx hb d_Tree_lay_33 rfl (lv_at hl 3 rfl) ?_
  refine lv_iload_n hx hb d_Tree_lay_34 rfl (lv_at hl 1 rfl) ?_
  obtain ⟨h3, eh3, hM⟩ := bS hM
  refine r_iast C hS eh3 d_Tree_lay_35 (fun H locs hS => ?_)
  refine lv_aload_n hx hb d_Tree_lay_36 rfl (lv_at hl 0 rfl) ?_
  obtain ⟨t4, et4, hM⟩ := bS hM
  refine r_getR C hS fl_Tree_15 et4 d_Tree_lay_37 ?_
  refine lv_iload_n hx hb d_Tree_lay_40 rfl (lv_at hl 3 rfl) ?_
  refine lv_iload_n hx hb d_Tree_lay_41 rfl (lv_at hl 2 rfl) ?_
  obtain ⟨h5, eh5, hM⟩ := bS hM
  refine r_iast C hS eh5 d_Tree_lay_42 (fun H locs hS => ?_)
  refine lv_iconst (v := (1 : Int32)) hx hb d_Tree_lay_43 (by decide) ?_
  obtain ⟨t6, et6, hM⟩ := bS hM
  obtain rfl := Option.some.inj hM
  exact r_zret C hS et6 d_Tree_lay_44
def f_Tree_lay (h : Hp) (l0 : Nat) (l1 : Int32) (l2 : Int32) : Option (Int32 × Hp) :=
  ck h 7 l0 (
    (f_Tree_find h l0 l1).bind fun t1 =>
    if t1 = (-6 : Int32) then (
      (gI h 7 l0 2).bind fun t7 =>
      if t7 < (12 : Int32) then (
        (f_Tree_openFor h l0 l1).bind fun q8 =>
        f_Tree_lay_29 q8.2 l0 l1 l2 q8.1
      ) else (
        (rz (0 : Int32)).bind fun t9 => some (t9, h)
      )
    ) else (
      f_Tree_lay_29 h l0 l1 l2 t1
    )
  )
theorem o_Tree_lay {h : Hp} {l0 : Nat} {l1 : Int32} {l2 : Int32} {r : (Int32 × Hp)} (hM : f_Tree_lay h l0 l1 l2 = some r) : isO h 7 l0 = true := by
  unfold f_Tree_lay at hM
  exact (ck_some hM).1
set_option maxHeartbeats 4000000 in
set_option maxRecDepth 100000 in
theorem t_Tree_lay {h : Hp} {l0 : Nat} {l1 : Int32} {l2 : Int32} {r : (Int32 × Hp)} (C : Cx base D cI cZ b_Tree_lay 4 "MovedFolders$Tree" "lay" (some .boolean) p s m args meth c) (hM : f_Tree_lay h l0 l1 l2 = some r) (H : Heap) (locs : List Loc) (ls : Array Slot) (hS : RS base D cI cZ s H locs h) (hl : lv_has ls 4 [(0, .ref (base + l0)), (1, .int l1), (2, .int l2)]) : Wg l base D cI cZ 1 23 0 0 r.2 (some (.int r.1)) p e s m args below meth c H locs 0 0 (F0 m 0 ls []) := by
  have hx := C.1
  have hb := C.2.1
  unfold f_Tree_lay at hM
  replace hM := (ck_some hM).2
  refine lv_aload_n hx hb d_Tree_lay_0 rfl (lv_at hl 0 rfl) ?_
  refine lv_iload_n hx hb d_Tree_lay_1 rfl (lv_at hl 1 rfl) ?_
  obtain ⟨t1, et1, hM⟩ := bS hM
  refine r_callVi (x := t1) C hS cv_Tree_38 (c_Tree_find l base D cI cZ h l0 l1 et1) (o_Tree_find et1) (rest := []) rfl hl.1 rfl (Nat.le_of_ble_eq_true rfl) ⟨(Nat.le_of_ble_eq_true rfl), (Nat.le_of_ble_eq_true rfl)⟩ ⟨(Nat.le_of_ble_eq_true rfl), (Nat.le_of_ble_eq_true rfl)⟩ d_Tree_lay_2 (fun H locs hS => ?_)
  refine lv_istore_n (lv' := [(3, .int t1), (0, .ref (base + l0)), (1, .int l1), (2, .int l2)]) hx hb d_Tree_lay_5 rfl hl (by decide) rfl (fun ls hl => ?_)
  refine lv_iload_n hx hb d_Tree_lay_6 rfl (lv_at hl 0 rfl) ?_
  refine lv_bipush (v := (-6 : Int32)) hx hb d_Tree_lay_7 (by decide) ?_
  refine lv_icmp_ne (tgt := 29) hx hb d_Tree_lay_9 (by decide) (fun c9_1 => ?_) (fun c9_1 => ?_)
  · rw [if_neg c9_1] at hM
    exact t_Tree_lay_29  C  hM _ _ _ hS (lv_sub hl [1, 2, 3, 0] rfl)
  · rw [if_pos c9_1] at hM
    refine lv_aload_n hx hb d_Tree_lay_12 rfl (lv_at hl 1 rfl) ?_
    obtain ⟨t7, et7, hM⟩ := bS hM
    refine r_getI C hS fl_Tree_18 et7 d_Tree_lay_13 ?_
    refine lv_bipush (v := (12 : Int32)) hx hb d_Tree_lay_16 (by decide) ?_
    refine lv_icmp_lt (tgt := 23) hx hb d_Tree_lay_18 (by decide) (fun c18_2 => ?_) (fun c18_2 => ?_)
    · rw [if_pos c18_2] at hM
      refine lv_aload_n hx hb d_Tree_lay_23 rfl (lv_at hl 1 rfl) ?_
      refine lv_iload_n hx hb d_Tree_lay_24 rfl (lv_at hl 2 rfl) ?_
      obtain ⟨q8, eq8, hM⟩ := bS hM
      refine r_callVi (x := q8.1) C hS cv_Tree_41 (c_Tree_openFor l base D cI cZ h l0 l1 eq8) (o_Tree_openFor eq8) (rest := []) rfl hl.1 rfl (Nat.le_of_ble_eq_true rfl) ⟨(Nat.le_of_ble_eq_true rfl), (Nat.le_of_ble_eq_true rfl)⟩ ⟨(Nat.le_of_ble_eq_true rfl), (Nat.le_of_ble_eq_true rfl)⟩ d_Tree_lay_25 (fun H locs hS => ?_)
      refine lv_istore_n (lv' := [(3, .int q8.1), (0, .ref (base + l0)), (1, .int l1), (2, .int l2)]) hx hb d_Tree_lay_28 rfl hl (by decide) rfl (fun ls hl => ?_)
      exact t_Tree_lay_29  C  hM _ _ _ hS (lv_sub hl [1, 2, 3, 0] rfl)
    · rw [if_neg c18_2] at hM
      refine lv_iconst (v := (0 : Int32)) hx hb d_Tree_lay_21 (by decide) ?_
      obtain ⟨t9, et9, hM⟩ := bS hM
      obtain rfl := Option.some.inj hM
      exact r_zret C hS et9 d_Tree_lay_22
theorem c_Tree_lay (l : Launch) (base : Nat) (D : va_G) (cI cZ : ClassId) (h : Hp) (l0 : Nat) (l1 : Int32) (l2 : Int32) {r : (Int32 × Hp)} (hM : f_Tree_lay h l0 l1 l2 = some r) : Ct l base D cI cZ y_Tree_lay b_Tree_lay 4 (some .boolean) 1 23 0 0 h [.ref (base + l0), .int l1, .int l2] r.2 (some (.int r.1)) :=
  ct_of (by decide) (Nat.le_of_ble_eq_true rfl) (fun p e s m below meth c ls C hS hl => t_Tree_lay C hM _ _ _ hS hl)
theorem d_Merge_writeTo_0 : decode b_Merge_writeTo 0 = .ok (.aload_n 1, 1) := by decide +kernel
theorem d_Merge_writeTo_1 : decode b_Merge_writeTo 1 = .ok (.invokevirtual 40, 3) := by decide +kernel
theorem d_Merge_writeTo_4 : decode b_Merge_writeTo 4 = .ok (.iconst 0, 1) := by decide +kernel
theorem d_Merge_writeTo_5 : decode b_Merge_writeTo 5 = .ok (.istore_n 2, 1) := by decide +kernel
theorem d_Merge_writeTo_6 : decode b_Merge_writeTo 6 = .ok (.iload_n 2, 1) := by decide +kernel
theorem d_Merge_writeTo_7 : decode b_Merge_writeTo 7 = .ok (.aload_n 0, 1) := by decide +kernel
theorem d_Merge_writeTo_8 : decode b_Merge_writeTo 8 = .ok (.getfield 24, 3) := by decide +kernel
theorem d_Merge_writeTo_11 : decode b_Merge_writeTo 11 = .ok (.if_icmp .ge 26, 3) := by decide +kernel
theorem d_Merge_writeTo_14 : decode b_Merge_writeTo 14 = .ok (.aload_n 1, 1) := by decide +kernel
theorem d_Merge_writeTo_15 : decode b_Merge_writeTo 15 = .ok (.aload_n 0, 1) := by decide +kernel
theorem d_Merge_writeTo_16 : decode b_Merge_writeTo 16 = .ok (.getfield 9, 3) := by decide +kernel
theorem d_Merge_writeTo_19 : decode b_Merge_writeTo 19 = .ok (.iload_n 2, 1) := by decide +kernel
theorem d_Merge_writeTo_20 : decode b_Merge_writeTo 20 = .ok (.iaload, 1) := by decide +kernel
theorem d_Merge_writeTo_21 : decode b_Merge_writeTo 21 = .ok (.aload_n 0, 1) := by decide +kernel
theorem d_Merge_writeTo_22 : decode b_Merge_writeTo 22 = .ok (.getfield 15, 3) := by decide +kernel
theorem d_Merge_writeTo_25 : decode b_Merge_writeTo 25 = .ok (.iload_n 2, 1) := by decide +kernel
theorem d_Merge_writeTo_26 : decode b_Merge_writeTo 26 = .ok (.iaload, 1) := by decide +kernel
theorem d_Merge_writeTo_27 : decode b_Merge_writeTo 27 = .ok (.invokevirtual 45, 3) := by decide +kernel
theorem d_Merge_writeTo_30 : decode b_Merge_writeTo 30 = .ok (.pop, 1) := by decide +kernel
theorem d_Merge_writeTo_31 : decode b_Merge_writeTo 31 = .ok (.iinc 2 1, 3) := by decide +kernel
theorem d_Merge_writeTo_34 : decode b_Merge_writeTo 34 = .ok (.goto (-28), 3) := by decide +kernel
theorem d_Merge_writeTo_37 : decode b_Merge_writeTo 37 = .ok (.return_, 1) := by decide +kernel
def f_Merge_writeTo_6 (l0 : Nat) (l1 : Nat) : Nat → Int32 → Hp → Option Hp
  | 0, _, _ => none
  | n + 1, l2, h =>
    (gI h 2 l0 4).bind fun t2 =>
    if t2 ≤ l2 then (
      some h
    ) else (
      (gR h 2 l0 0).bind fun t3 =>
      (gA h false t3 l2).bind fun t4 =>
      (gR h 2 l0 1).bind fun t5 =>
      (gA h false t5 l2).bind fun t6 =>
      (f_Tree_lay h l1 t4 t6).bind fun q7 =>
      f_Merge_writeTo_6 l0 l1 n (l2 + (1 : Int32)) q7.2
    )
set_option maxHeartbeats 4000000 in
set_option maxRecDepth 100000 in
theorem t_Merge_writeTo_6 {l0 : Nat} {l1 : Nat} {r : Hp} (C : Cx base D cI cZ b_Merge_writeTo 3 "MovedFolders$Merge" "writeTo" none p s m args meth c)  : ∀ (n : Nat) (l2 : Int32) (h : Hp), f_Merge_writeTo_6 l0 l1 n l2 h = some r → ∀ (H : Heap) (locs : List Loc) (ls : Array Slot), RS base D cI cZ s H locs h → lv_has ls 3 [(0, .ref (base + l0)), (1, .ref (base + l1)), (2, .int l2)] → Wg l base D cI cZ 2 46 0 0 r none p e s m args below meth c H locs 0 0 (F0 m 6 ls []) := by
  have hx := C.1
  have hb := C.2.1
  intro n
  induction n with
  | zero =>
    intro l2 h hM
    rw [f_Merge_writeTo_6] at hM
    cases hM
  | succ n ih =>
    intro l2 h hM H locs ls hS hl
    rw [f_Merge_writeTo_6] at hM
    refine lv_iload_n hx hb d_Merge_writeTo_6 rfl (lv_at hl 2 rfl) ?_
    refine lv_aload_n hx hb d_Merge_writeTo_7 rfl (lv_at hl 0 rfl) ?_
    obtain ⟨t2, et2, hM⟩ := bS hM
    refine r_getI C hS fl_Merge_24 et2 d_Merge_writeTo_8 ?_
    refine lv_icmp_ge (tgt := 37) hx hb d_Merge_writeTo_11 (by decide) (fun c11_1 => ?_) (fun c11_1 => ?_)
    · rw [if_pos c11_1] at hM
      obtain rfl := Option.some.inj hM
      exact r_vret C hS d_Merge_writeTo_37
    · rw [if_neg c11_1] at hM
      refine lv_aload_n hx hb d_Merge_writeTo_14 rfl (lv_at hl 1 rfl) ?_
      refine lv_aload_n hx hb d_Merge_writeTo_15 rfl (lv_at hl 0 rfl) ?_
      obtain ⟨t3, et3, hM⟩ := bS hM
      refine r_getR C hS fl_Merge_9 et3 d_Merge_writeTo_16 ?_
      refine lv_iload_n hx hb d_Merge_writeTo_19 rfl (lv_at hl 2 rfl) ?_
      obtain ⟨t4, et4, hM⟩ := bS hM
      refine r_iald C hS et4 d_Merge_writeTo_20 ?_
      refine lv_aload_n hx hb d_Merge_writeTo_21 rfl (lv_at hl 0 rfl) ?_
      obtain ⟨t5, et5, hM⟩ := bS hM
      refine r_getR C hS fl_Merge_15 et5 d_Merge_writeTo_22 ?_
      refine lv_iload_n hx hb d_Merge_writeTo_25 rfl (lv_at hl 2 rfl) ?_
      obtain ⟨t6, et6, hM⟩ := bS hM
      refine r_iald C hS et6 d_Merge_writeTo_26 ?_
      obtain ⟨q7, eq7, hM⟩ := bS hM
      refine r_callVi (x := q7.1) C hS cv_Merge_45 (c_Tree_lay l base D cI cZ h l1 t4 t6 eq7) (o_Tree_lay eq7) (rest := []) rfl hl.1 rfl (Nat.le_of_ble_eq_true rfl) ⟨(Nat.le_of_ble_eq_true rfl), (Nat.le_of_ble_eq_true rfl)⟩ ⟨(Nat.le_of_ble_eq_true rfl), (Nat.le_of_ble_eq_true rfl)⟩ d_Merge_writeTo_27 (fun H locs hS => ?_)
      refine lv_pop hx hb d_Merge_writeTo_30 rfl ?_
      refine lv_iinc (v := (l2 + (1 : Int32))) (lv' := [(2, .int (l2 + (1 : Int32))), (0, .ref (base + l0)), (1, .ref (base + l1))]) hx hb d_Merge_writeTo_31 hl (k := 2) rfl (by rw [oi_1]) (by decide) rfl (fun ls hl => ?_)
      refine lv_goto (tgt := 6) hx hb d_Merge_writeTo_34 (by decide) ?_
      exact ih (l2 + (1 : Int32)) q7.2 hM _ _ _ hS (lv_sub hl [1, 2, 0] rfl)
def f_Merge_writeTo (h : Hp) (l0 : Nat) (l1 : Nat) : Option Hp :=
  ck h 2 l0 (
    (f_Tree_clear h l1).bind fun h1 =>
    f_Merge_writeTo_6 l0 l1 FU (0 : Int32) h1
  )
theorem o_Merge_writeTo {h : Hp} {l0 : Nat} {l1 : Nat} {r : Hp} (hM : f_Merge_writeTo h l0 l1 = some r) : isO h 2 l0 = true := by
  unfold f_Merge_writeTo at hM
  exact (ck_some hM).1
set_option maxHeartbeats 4000000 in
set_option maxRecDepth 100000 in
theorem t_Merge_writeTo {h : Hp} {l0 : Nat} {l1 : Nat} {r : Hp} (C : Cx base D cI cZ b_Merge_writeTo 3 "MovedFolders$Merge" "writeTo" none p s m args meth c) (hM : f_Merge_writeTo h l0 l1 = some r) (H : Heap) (locs : List Loc) (ls : Array Slot) (hS : RS base D cI cZ s H locs h) (hl : lv_has ls 3 [(0, .ref (base + l0)), (1, .ref (base + l1))]) : Wg l base D cI cZ 2 46 0 0 r none p e s m args below meth c H locs 0 0 (F0 m 0 ls []) := by
  have hx := C.1
  have hb := C.2.1
  unfold f_Merge_writeTo at hM
  replace hM := (ck_some hM).2
  refine lv_aload_n hx hb d_Merge_writeTo_0 rfl (lv_at hl 1 rfl) ?_
  obtain ⟨h1, eh1, hM⟩ := bS hM
  refine r_callVv C hS cv_Merge_40 (c_Tree_clear l base D cI cZ h l1 eh1) (o_Tree_clear eh1) (rest := []) rfl hl.1 rfl (Nat.le_of_ble_eq_true rfl) ⟨(Nat.le_of_ble_eq_true rfl), (Nat.le_of_ble_eq_true rfl)⟩ ⟨(Nat.le_of_ble_eq_true rfl), (Nat.le_of_ble_eq_true rfl)⟩ d_Merge_writeTo_1 (fun H locs hS => ?_)
  refine lv_iconst (v := (0 : Int32)) hx hb d_Merge_writeTo_4 (by decide) ?_
  refine lv_istore_n (lv' := [(2, .int (0 : Int32)), (0, .ref (base + l0)), (1, .ref (base + l1))]) hx hb d_Merge_writeTo_5 rfl hl (by decide) rfl (fun ls hl => ?_)
  exact t_Merge_writeTo_6  C  FU (0 : Int32) h1 hM _ _ _ hS (lv_sub hl [1, 2, 0] rfl)
theorem c_Merge_writeTo (l : Launch) (base : Nat) (D : va_G) (cI cZ : ClassId) (h : Hp) (l0 : Nat) (l1 : Nat) {r : Hp} (hM : f_Merge_writeTo h l0 l1 = some r) : Ct l base D cI cZ y_Merge_writeTo b_Merge_writeTo 3 none 2 46 0 0 h [.ref (base + l0), .ref (base + l1)] r none :=
  ct_of (by decide) (Nat.le_of_ble_eq_true rfl) (fun p e s m below meth c ls C hS hl => t_Merge_writeTo C hM _ _ _ hS hl)
theorem d_Tree_size_0 : decode b_Tree_size 0 = .ok (.aload_n 0, 1) := by decide +kernel
theorem d_Tree_size_1 : decode b_Tree_size 1 = .ok (.getfield 18, 3) := by decide +kernel
theorem d_Tree_size_4 : decode b_Tree_size 4 = .ok (.ireturn, 1) := by decide +kernel
def f_Tree_size (h : Hp) (l0 : Nat) : Option Int32 :=
  ck h 7 l0 (
    (gI h 7 l0 2).bind fun t1 =>
    some t1
  )
theorem o_Tree_size {h : Hp} {l0 : Nat} {r : Int32} (hM : f_Tree_size h l0 = some r) : isO h 7 l0 = true := by
  unfold f_Tree_size at hM
  exact (ck_some hM).1
set_option maxHeartbeats 4000000 in
set_option maxRecDepth 100000 in
theorem t_Tree_size {h : Hp} {l0 : Nat} {r : Int32} (C : Cx base D cI cZ b_Tree_size 1 "MovedFolders$Tree" "size" (some .int) p s m args meth c) (hM : f_Tree_size h l0 = some r) (H : Heap) (locs : List Loc) (ls : Array Slot) (hS : RS base D cI cZ s H locs h) (hl : lv_has ls 1 [(0, .ref (base + l0))]) : Wg l base D cI cZ 0 0 0 0 h (some (.int r)) p e s m args below meth c H locs 0 0 (F0 m 0 ls []) := by
  have hx := C.1
  have hb := C.2.1
  unfold f_Tree_size at hM
  replace hM := (ck_some hM).2
  refine lv_aload_n hx hb d_Tree_size_0 rfl (lv_at hl 0 rfl) ?_
  obtain ⟨t1, et1, hM⟩ := bS hM
  refine r_getI C hS fl_Tree_18 et1 d_Tree_size_1 ?_
  obtain rfl := Option.some.inj hM
  exact r_iret C hS d_Tree_size_4
theorem c_Tree_size (l : Launch) (base : Nat) (D : va_G) (cI cZ : ClassId) (h : Hp) (l0 : Nat) {r : Int32} (hM : f_Tree_size h l0 = some r) : Ct l base D cI cZ y_Tree_size b_Tree_size 1 (some .int) 0 0 0 0 h [.ref (base + l0)] h (some (.int r)) :=
  ct_of (by decide) (Nat.le_of_ble_eq_true rfl) (fun p e s m below meth c ls C hS hl => t_Tree_size C hM _ _ _ hS hl)
theorem d_Pairs_mateOf_0 : decode b_Pairs_mateOf 0 = .ok (.iload_n 1, 1) := by decide +kernel
theorem d_Pairs_mateOf_1 : decode b_Pairs_mateOf 1 = .ok (.ifCond .lt 18, 3) := by decide +kernel
theorem d_Pairs_mateOf_4 : decode b_Pairs_mateOf 4 = .ok (.iload_n 1, 1) := by decide +kernel
theorem d_Pairs_mateOf_5 : decode b_Pairs_mateOf 5 = .ok (.bipush 12, 2) := by decide +kernel
theorem d_Pairs_mateOf_7 : decode b_Pairs_mateOf 7 = .ok (.if_icmp .ge 12, 3) := by decide +kernel
theorem d_Pairs_mateOf_10 : decode b_Pairs_mateOf 10 = .ok (.aload_n 0, 1) := by decide +kernel
theorem d_Pairs_mateOf_11 : decode b_Pairs_mateOf 11 = .ok (.getfield 9, 3) := by decide +kernel
theorem d_Pairs_mateOf_14 : decode b_Pairs_mateOf 14 = .ok (.iload_n 1, 1) := by decide +kernel
theorem d_Pairs_mateOf_15 : decode b_Pairs_mateOf 15 = .ok (.iaload, 1) := by decide +kernel
theorem d_Pairs_mateOf_16 : decode b_Pairs_mateOf 16 = .ok (.goto 5, 3) := by decide +kernel
theorem d_Pairs_mateOf_19 : decode b_Pairs_mateOf 19 = .ok (.bipush (-6), 2) := by decide +kernel
theorem d_Pairs_mateOf_21 : decode b_Pairs_mateOf 21 = .ok (.ireturn, 1) := by decide +kernel
def f_Pairs_mateOf (h : Hp) (l0 : Nat) (l1 : Int32) : Option Int32 :=
  ck h 5 l0 (
    (
      if l1 < (0 : Int32) then (
        some (-6 : Int32)
      ) else (
        if (12 : Int32) ≤ l1 then (
          some (-6 : Int32)
        ) else (
          (gR h 5 l0 0).bind fun t2 =>
          (gA h false t2 l1).bind fun t3 =>
          some t3
        )
      )
    ).bind fun t1 =>
    some t1
  )
theorem o_Pairs_mateOf {h : Hp} {l0 : Nat} {l1 : Int32} {r : Int32} (hM : f_Pairs_mateOf h l0 l1 = some r) : isO h 5 l0 = true := by
  unfold f_Pairs_mateOf at hM
  exact (ck_some hM).1
set_option maxHeartbeats 4000000 in
set_option maxRecDepth 100000 in
theorem t_Pairs_mateOf {h : Hp} {l0 : Nat} {l1 : Int32} {r : Int32} (C : Cx base D cI cZ b_Pairs_mateOf 2 "MovedFolders$Pairs" "mateOf" (some .int) p s m args meth c) (hM : f_Pairs_mateOf h l0 l1 = some r) (H : Heap) (locs : List Loc) (ls : Array Slot) (hS : RS base D cI cZ s H locs h) (hl : lv_has ls 2 [(0, .ref (base + l0)), (1, .int l1)]) : Wg l base D cI cZ 0 0 0 0 h (some (.int r)) p e s m args below meth c H locs 0 0 (F0 m 0 ls []) := by
  have hx := C.1
  have hb := C.2.1
  unfold f_Pairs_mateOf at hM
  replace hM := (ck_some hM).2
  refine lv_iload_n hx hb d_Pairs_mateOf_0 rfl (lv_at hl 1 rfl) ?_
  obtain ⟨t1, et1, hM⟩ := bS hM
  have kJ21_1 : ∀ (H : Heap) (locs : List Loc) (ls : Array Slot), RS base D cI cZ s H locs h → lv_has ls 2 [] → Wg l base D cI cZ 0 0 0 0 h (some (.int r)) p e s m args below meth c H locs 0 0 (F0 m 21 ls [.int t1]) := by
    intro H locs ls hS hl
    obtain rfl := Option.some.inj hM
    exact r_iret C hS d_Pairs_mateOf_21
  refine lv_if_lt (tgt := 19) hx hb d_Pairs_mateOf_1 (by decide) (fun c1_2 => ?_) (fun c1_2 => ?_)
  · rw [if_pos c1_2] at et1
    refine lv_bipush (v := (-6 : Int32)) hx hb d_Pairs_mateOf_19 (by decide) ?_
    obtain rfl := Option.some.inj et1
    exact kJ21_1 _ _ _ hS (lv_sub hl [] rfl)
  · rw [if_neg c1_2] at et1
    refine lv_iload_n hx hb d_Pairs_mateOf_4 rfl (lv_at hl 1 rfl) ?_
    refine lv_bipush (v := (12 : Int32)) hx hb d_Pairs_mateOf_5 (by decide) ?_
    refine lv_icmp_ge (tgt := 19) hx hb d_Pairs_mateOf_7 (by decide) (fun c7_3 => ?_) (fun c7_3 => ?_)
    · rw [if_pos c7_3] at et1
      refine lv_bipush (v := (-6 : Int32)) hx hb d_Pairs_mateOf_19 (by decide) ?_
      obtain rfl := Option.some.inj et1
      exact kJ21_1 _ _ _ hS (lv_sub hl [] rfl)
    · rw [if_neg c7_3] at et1
      refine lv_aload_n hx hb d_Pairs_mateOf_10 rfl (lv_at hl 0 rfl) ?_
      obtain ⟨t2, et2, et1⟩ := bS et1
      refine r_getR C hS fl_Pairs_9 et2 d_Pairs_mateOf_11 ?_
      refine lv_iload_n hx hb d_Pairs_mateOf_14 rfl (lv_at hl 1 rfl) ?_
      obtain ⟨t3, et3, et1⟩ := bS et1
      refine r_iald C hS et3 d_Pairs_mateOf_15 ?_
      refine lv_goto (tgt := 21) hx hb d_Pairs_mateOf_16 (by decide) ?_
      obtain rfl := Option.some.inj et1
      exact kJ21_1 _ _ _ hS (lv_sub hl [] rfl)
theorem c_Pairs_mateOf (l : Launch) (base : Nat) (D : va_G) (cI cZ : ClassId) (h : Hp) (l0 : Nat) (l1 : Int32) {r : Int32} (hM : f_Pairs_mateOf h l0 l1 = some r) : Ct l base D cI cZ y_Pairs_mateOf b_Pairs_mateOf 2 (some .int) 0 0 0 0 h [.ref (base + l0), .int l1] h (some (.int r)) :=
  ct_of (by decide) (Nat.le_of_ble_eq_true rfl) (fun p e s m below meth c ls C hS hl => t_Pairs_mateOf C hM _ _ _ hS hl)
theorem d_Tree_has_0 : decode b_Tree_has 0 = .ok (.iload_n 1, 1) := by decide +kernel
theorem d_Tree_has_1 : decode b_Tree_has 1 = .ok (.ifCond .lt 15, 3) := by decide +kernel
theorem d_Tree_has_4 : decode b_Tree_has 4 = .ok (.iload_n 1, 1) := by decide +kernel
theorem d_Tree_has_5 : decode b_Tree_has 5 = .ok (.aload_n 0, 1) := by decide +kernel
theorem d_Tree_has_6 : decode b_Tree_has 6 = .ok (.getfield 18, 3) := by decide +kernel
theorem d_Tree_has_9 : decode b_Tree_has 9 = .ok (.if_icmp .ge 7, 3) := by decide +kernel
theorem d_Tree_has_12 : decode b_Tree_has 12 = .ok (.iconst 1, 1) := by decide +kernel
theorem d_Tree_has_13 : decode b_Tree_has 13 = .ok (.goto 4, 3) := by decide +kernel
theorem d_Tree_has_16 : decode b_Tree_has 16 = .ok (.iconst 0, 1) := by decide +kernel
theorem d_Tree_has_17 : decode b_Tree_has 17 = .ok (.ireturn, 1) := by decide +kernel
def f_Tree_has (h : Hp) (l0 : Nat) (l1 : Int32) : Option Int32 :=
  ck h 7 l0 (
    (
      if l1 < (0 : Int32) then (
        some (0 : Int32)
      ) else (
        (gI h 7 l0 2).bind fun t2 =>
        if t2 ≤ l1 then (
          some (0 : Int32)
        ) else (
          some (1 : Int32)
        )
      )
    ).bind fun t1 =>
    rz t1
  )
theorem o_Tree_has {h : Hp} {l0 : Nat} {l1 : Int32} {r : Int32} (hM : f_Tree_has h l0 l1 = some r) : isO h 7 l0 = true := by
  unfold f_Tree_has at hM
  exact (ck_some hM).1
set_option maxHeartbeats 4000000 in
set_option maxRecDepth 100000 in
theorem t_Tree_has {h : Hp} {l0 : Nat} {l1 : Int32} {r : Int32} (C : Cx base D cI cZ b_Tree_has 2 "MovedFolders$Tree" "has" (some .boolean) p s m args meth c) (hM : f_Tree_has h l0 l1 = some r) (H : Heap) (locs : List Loc) (ls : Array Slot) (hS : RS base D cI cZ s H locs h) (hl : lv_has ls 2 [(0, .ref (base + l0)), (1, .int l1)]) : Wg l base D cI cZ 0 0 0 0 h (some (.int r)) p e s m args below meth c H locs 0 0 (F0 m 0 ls []) := by
  have hx := C.1
  have hb := C.2.1
  unfold f_Tree_has at hM
  replace hM := (ck_some hM).2
  refine lv_iload_n hx hb d_Tree_has_0 rfl (lv_at hl 1 rfl) ?_
  obtain ⟨t1, et1, hM⟩ := bS hM
  have kJ17_1 : ∀ (H : Heap) (locs : List Loc) (ls : Array Slot), RS base D cI cZ s H locs h → lv_has ls 2 [] → Wg l base D cI cZ 0 0 0 0 h (some (.int r)) p e s m args below meth c H locs 0 0 (F0 m 17 ls [.int t1]) := by
    intro H locs ls hS hl
    exact r_zret C hS hM d_Tree_has_17
  refine lv_if_lt (tgt := 16) hx hb d_Tree_has_1 (by decide) (fun c1_2 => ?_) (fun c1_2 => ?_)
  · rw [if_pos c1_2] at et1
    refine lv_iconst (v := (0 : Int32)) hx hb d_Tree_has_16 (by decide) ?_
    obtain rfl := Option.some.inj et1
    exact kJ17_1 _ _ _ hS (lv_sub hl [] rfl)
  · rw [if_neg c1_2] at et1
    refine lv_iload_n hx hb d_Tree_has_4 rfl (lv_at hl 1 rfl) ?_
    refine lv_aload_n hx hb d_Tree_has_5 rfl (lv_at hl 0 rfl) ?_
    obtain ⟨t2, et2, et1⟩ := bS et1
    refine r_getI C hS fl_Tree_18 et2 d_Tree_has_6 ?_
    refine lv_icmp_ge (tgt := 16) hx hb d_Tree_has_9 (by decide) (fun c9_3 => ?_) (fun c9_3 => ?_)
    · rw [if_pos c9_3] at et1
      refine lv_iconst (v := (0 : Int32)) hx hb d_Tree_has_16 (by decide) ?_
      obtain rfl := Option.some.inj et1
      exact kJ17_1 _ _ _ hS (lv_sub hl [] rfl)
    · rw [if_neg c9_3] at et1
      refine lv_iconst (v := (1 : Int32)) hx hb d_Tree_has_12 (by decide) ?_
      refine lv_goto (tgt := 17) hx hb d_Tree_has_13 (by decide) ?_
      obtain rfl := Option.some.inj et1
      exact kJ17_1 _ _ _ hS (lv_sub hl [] rfl)
theorem c_Tree_has (l : Launch) (base : Nat) (D : va_G) (cI cZ : ClassId) (h : Hp) (l0 : Nat) (l1 : Int32) {r : Int32} (hM : f_Tree_has h l0 l1 = some r) : Ct l base D cI cZ y_Tree_has b_Tree_has 2 (some .boolean) 0 0 0 0 h [.ref (base + l0), .int l1] h (some (.int r)) :=
  ct_of (by decide) (Nat.le_of_ble_eq_true rfl) (fun p e s m below meth c ls C hS hl => t_Tree_has C hM _ _ _ hS hl)
theorem d_Tree_pathAt_0 : decode b_Tree_pathAt 0 = .ok (.aload_n 0, 1) := by decide +kernel
theorem d_Tree_pathAt_1 : decode b_Tree_pathAt 1 = .ok (.iload_n 1, 1) := by decide +kernel
theorem d_Tree_pathAt_2 : decode b_Tree_pathAt 2 = .ok (.invokevirtual 22, 3) := by decide +kernel
theorem d_Tree_pathAt_5 : decode b_Tree_pathAt 5 = .ok (.ifCond .eq 12, 3) := by decide +kernel
theorem d_Tree_pathAt_8 : decode b_Tree_pathAt 8 = .ok (.aload_n 0, 1) := by decide +kernel
theorem d_Tree_pathAt_9 : decode b_Tree_pathAt 9 = .ok (.getfield 9, 3) := by decide +kernel
theorem d_Tree_pathAt_12 : decode b_Tree_pathAt 12 = .ok (.iload_n 1, 1) := by decide +kernel
theorem d_Tree_pathAt_13 : decode b_Tree_pathAt 13 = .ok (.iaload, 1) := by decide +kernel
theorem d_Tree_pathAt_14 : decode b_Tree_pathAt 14 = .ok (.goto 5, 3) := by decide +kernel
theorem d_Tree_pathAt_17 : decode b_Tree_pathAt 17 = .ok (.bipush (-6), 2) := by decide +kernel
theorem d_Tree_pathAt_19 : decode b_Tree_pathAt 19 = .ok (.ireturn, 1) := by decide +kernel
def f_Tree_pathAt (h : Hp) (l0 : Nat) (l1 : Int32) : Option Int32 :=
  ck h 7 l0 (
    (f_Tree_has h l0 l1).bind fun t1 =>
    (
      if t1 = (0 : Int32) then (
        some (-6 : Int32)
      ) else (
        (gR h 7 l0 0).bind fun t3 =>
        (gA h false t3 l1).bind fun t4 =>
        some t4
      )
    ).bind fun t2 =>
    some t2
  )
theorem o_Tree_pathAt {h : Hp} {l0 : Nat} {l1 : Int32} {r : Int32} (hM : f_Tree_pathAt h l0 l1 = some r) : isO h 7 l0 = true := by
  unfold f_Tree_pathAt at hM
  exact (ck_some hM).1
set_option maxHeartbeats 4000000 in
set_option maxRecDepth 100000 in
theorem t_Tree_pathAt {h : Hp} {l0 : Nat} {l1 : Int32} {r : Int32} (C : Cx base D cI cZ b_Tree_pathAt 2 "MovedFolders$Tree" "pathAt" (some .int) p s m args meth c) (hM : f_Tree_pathAt h l0 l1 = some r) (H : Heap) (locs : List Loc) (ls : Array Slot) (hS : RS base D cI cZ s H locs h) (hl : lv_has ls 2 [(0, .ref (base + l0)), (1, .int l1)]) : Wg l base D cI cZ 1 21 0 0 h (some (.int r)) p e s m args below meth c H locs 0 0 (F0 m 0 ls []) := by
  have hx := C.1
  have hb := C.2.1
  unfold f_Tree_pathAt at hM
  replace hM := (ck_some hM).2
  refine lv_aload_n hx hb d_Tree_pathAt_0 rfl (lv_at hl 0 rfl) ?_
  refine lv_iload_n hx hb d_Tree_pathAt_1 rfl (lv_at hl 1 rfl) ?_
  obtain ⟨t1, et1, hM⟩ := bS hM
  refine r_callVi (x := t1) C hS cv_Tree_22 (c_Tree_has l base D cI cZ h l0 l1 et1) (o_Tree_has et1) (rest := []) rfl hl.1 rfl (Nat.le_of_ble_eq_true rfl) ⟨(Nat.le_of_ble_eq_true rfl), (Nat.le_of_ble_eq_true rfl)⟩ ⟨(Nat.le_of_ble_eq_true rfl), (Nat.le_of_ble_eq_true rfl)⟩ d_Tree_pathAt_2 (fun H locs hS => ?_)
  obtain ⟨t2, et2, hM⟩ := bS hM
  have kJ19_1 : ∀ (H : Heap) (locs : List Loc) (ls : Array Slot), RS base D cI cZ s H locs h → lv_has ls 2 [] → Wg l base D cI cZ 1 21 0 0 h (some (.int r)) p e s m args below meth c H locs 0 0 (F0 m 19 ls [.int t2]) := by
    intro H locs ls hS hl
    obtain rfl := Option.some.inj hM
    exact r_iret C hS d_Tree_pathAt_19
  refine lv_if_eq (tgt := 17) hx hb d_Tree_pathAt_5 (by decide) (fun c5_2 => ?_) (fun c5_2 => ?_)
  · rw [if_pos c5_2] at et2
    refine lv_bipush (v := (-6 : Int32)) hx hb d_Tree_pathAt_17 (by decide) ?_
    obtain rfl := Option.some.inj et2
    exact kJ19_1 _ _ _ hS (lv_sub hl [] rfl)
  · rw [if_neg c5_2] at et2
    refine lv_aload_n hx hb d_Tree_pathAt_8 rfl (lv_at hl 0 rfl) ?_
    obtain ⟨t3, et3, et2⟩ := bS et2
    refine r_getR C hS fl_Tree_9 et3 d_Tree_pathAt_9 ?_
    refine lv_iload_n hx hb d_Tree_pathAt_12 rfl (lv_at hl 1 rfl) ?_
    obtain ⟨t4, et4, et2⟩ := bS et2
    refine r_iald C hS et4 d_Tree_pathAt_13 ?_
    refine lv_goto (tgt := 19) hx hb d_Tree_pathAt_14 (by decide) ?_
    obtain rfl := Option.some.inj et2
    exact kJ19_1 _ _ _ hS (lv_sub hl [] rfl)
theorem c_Tree_pathAt (l : Launch) (base : Nat) (D : va_G) (cI cZ : ClassId) (h : Hp) (l0 : Nat) (l1 : Int32) {r : Int32} (hM : f_Tree_pathAt h l0 l1 = some r) : Ct l base D cI cZ y_Tree_pathAt b_Tree_pathAt 2 (some .int) 1 21 0 0 h [.ref (base + l0), .int l1] h (some (.int r)) :=
  ct_of (by decide) (Nat.le_of_ble_eq_true rfl) (fun p e s m below meth c ls C hS hl => t_Tree_pathAt C hM _ _ _ hS hl)
theorem d_Tree_contentAt_0 : decode b_Tree_contentAt 0 = .ok (.aload_n 0, 1) := by decide +kernel
theorem d_Tree_contentAt_1 : decode b_Tree_contentAt 1 = .ok (.iload_n 1, 1) := by decide +kernel
theorem d_Tree_contentAt_2 : decode b_Tree_contentAt 2 = .ok (.invokevirtual 22, 3) := by decide +kernel
theorem d_Tree_contentAt_5 : decode b_Tree_contentAt 5 = .ok (.ifCond .eq 12, 3) := by decide +kernel
theorem d_Tree_contentAt_8 : decode b_Tree_contentAt 8 = .ok (.aload_n 0, 1) := by decide +kernel
theorem d_Tree_contentAt_9 : decode b_Tree_contentAt 9 = .ok (.getfield 15, 3) := by decide +kernel
theorem d_Tree_contentAt_12 : decode b_Tree_contentAt 12 = .ok (.iload_n 1, 1) := by decide +kernel
theorem d_Tree_contentAt_13 : decode b_Tree_contentAt 13 = .ok (.iaload, 1) := by decide +kernel
theorem d_Tree_contentAt_14 : decode b_Tree_contentAt 14 = .ok (.goto 5, 3) := by decide +kernel
theorem d_Tree_contentAt_17 : decode b_Tree_contentAt 17 = .ok (.bipush (-6), 2) := by decide +kernel
theorem d_Tree_contentAt_19 : decode b_Tree_contentAt 19 = .ok (.ireturn, 1) := by decide +kernel
def f_Tree_contentAt (h : Hp) (l0 : Nat) (l1 : Int32) : Option Int32 :=
  ck h 7 l0 (
    (f_Tree_has h l0 l1).bind fun t1 =>
    (
      if t1 = (0 : Int32) then (
        some (-6 : Int32)
      ) else (
        (gR h 7 l0 1).bind fun t3 =>
        (gA h false t3 l1).bind fun t4 =>
        some t4
      )
    ).bind fun t2 =>
    some t2
  )
theorem o_Tree_contentAt {h : Hp} {l0 : Nat} {l1 : Int32} {r : Int32} (hM : f_Tree_contentAt h l0 l1 = some r) : isO h 7 l0 = true := by
  unfold f_Tree_contentAt at hM
  exact (ck_some hM).1
set_option maxHeartbeats 4000000 in
set_option maxRecDepth 100000 in
theorem t_Tree_contentAt {h : Hp} {l0 : Nat} {l1 : Int32} {r : Int32} (C : Cx base D cI cZ b_Tree_contentAt 2 "MovedFolders$Tree" "contentAt" (some .int) p s m args meth c) (hM : f_Tree_contentAt h l0 l1 = some r) (H : Heap) (locs : List Loc) (ls : Array Slot) (hS : RS base D cI cZ s H locs h) (hl : lv_has ls 2 [(0, .ref (base + l0)), (1, .int l1)]) : Wg l base D cI cZ 1 21 0 0 h (some (.int r)) p e s m args below meth c H locs 0 0 (F0 m 0 ls []) := by
  have hx := C.1
  have hb := C.2.1
  unfold f_Tree_contentAt at hM
  replace hM := (ck_some hM).2
  refine lv_aload_n hx hb d_Tree_contentAt_0 rfl (lv_at hl 0 rfl) ?_
  refine lv_iload_n hx hb d_Tree_contentAt_1 rfl (lv_at hl 1 rfl) ?_
  obtain ⟨t1, et1, hM⟩ := bS hM
  refine r_callVi (x := t1) C hS cv_Tree_22 (c_Tree_has l base D cI cZ h l0 l1 et1) (o_Tree_has et1) (rest := []) rfl hl.1 rfl (Nat.le_of_ble_eq_true rfl) ⟨(Nat.le_of_ble_eq_true rfl), (Nat.le_of_ble_eq_true rfl)⟩ ⟨(Nat.le_of_ble_eq_true rfl), (Nat.le_of_ble_eq_true rfl)⟩ d_Tree_contentAt_2 (fun H locs hS => ?_)
  obtain ⟨t2, et2, hM⟩ := bS hM
  have kJ19_1 : ∀ (H : Heap) (locs : List Loc) (ls : Array Slot), RS base D cI cZ s H locs h → lv_has ls 2 [] → Wg l base D cI cZ 1 21 0 0 h (some (.int r)) p e s m args below meth c H locs 0 0 (F0 m 19 ls [.int t2]) := by
    intro H locs ls hS hl
    obtain rfl := Option.some.inj hM
    exact r_iret C hS d_Tree_contentAt_19
  refine lv_if_eq (tgt := 17) hx hb d_Tree_contentAt_5 (by decide) (fun c5_2 => ?_) (fun c5_2 => ?_)
  · rw [if_pos c5_2] at et2
    refine lv_bipush (v := (-6 : Int32)) hx hb d_Tree_contentAt_17 (by decide) ?_
    obtain rfl := Option.some.inj et2
    exact kJ19_1 _ _ _ hS (lv_sub hl [] rfl)
  · rw [if_neg c5_2] at et2
    refine lv_aload_n hx hb d_Tree_contentAt_8 rfl (lv_at hl 0 rfl) ?_
    obtain ⟨t3, et3, et2⟩ := bS et2
    refine r_getR C hS fl_Tree_15 et3 d_Tree_contentAt_9 ?_
    refine lv_iload_n hx hb d_Tree_contentAt_12 rfl (lv_at hl 1 rfl) ?_
    obtain ⟨t4, et4, et2⟩ := bS et2
    refine r_iald C hS et4 d_Tree_contentAt_13 ?_
    refine lv_goto (tgt := 19) hx hb d_Tree_contentAt_14 (by decide) ?_
    obtain rfl := Option.some.inj et2
    exact kJ19_1 _ _ _ hS (lv_sub hl [] rfl)
theorem c_Tree_contentAt (l : Launch) (base : Nat) (D : va_G) (cI cZ : ClassId) (h : Hp) (l0 : Nat) (l1 : Int32) {r : Int32} (hM : f_Tree_contentAt h l0 l1 = some r) : Ct l base D cI cZ y_Tree_contentAt b_Tree_contentAt 2 (some .int) 1 21 0 0 h [.ref (base + l0), .int l1] h (some (.int r)) :=
  ct_of (by decide) (Nat.le_of_ble_eq_true rfl) (fun p e s m below meth c ls C hS hl => t_Tree_contentAt C hM _ _ _ hS hl)
theorem d_Three_differ_0 : decode b_Three_differ 0 = .ok (.iload_n 1, 1) := by decide +kernel
theorem d_Three_differ_1 : decode b_Three_differ 1 = .ok (.iload_n 2, 1) := by decide +kernel
theorem d_Three_differ_2 : decode b_Three_differ 2 = .ok (.if_icmp .eq 17, 3) := by decide +kernel
theorem d_Three_differ_5 : decode b_Three_differ 5 = .ok (.iload_n 1, 1) := by decide +kernel
theorem d_Three_differ_6 : decode b_Three_differ 6 = .ok (.iload_n 0, 1) := by decide +kernel
theorem d_Three_differ_7 : decode b_Three_differ 7 = .ok (.if_icmp .eq 12, 3) := by decide +kernel
theorem d_Three_differ_10 : decode b_Three_differ 10 = .ok (.iload_n 2, 1) := by decide +kernel
theorem d_Three_differ_11 : decode b_Three_differ 11 = .ok (.iload_n 0, 1) := by decide +kernel
theorem d_Three_differ_12 : decode b_Three_differ 12 = .ok (.if_icmp .eq 7, 3) := by decide +kernel
theorem d_Three_differ_15 : decode b_Three_differ 15 = .ok (.iconst 1, 1) := by decide +kernel
theorem d_Three_differ_16 : decode b_Three_differ 16 = .ok (.goto 4, 3) := by decide +kernel
theorem d_Three_differ_19 : decode b_Three_differ 19 = .ok (.iconst 0, 1) := by decide +kernel
theorem d_Three_differ_20 : decode b_Three_differ 20 = .ok (.ireturn, 1) := by decide +kernel
def f_Three_differ (l0 : Int32) (l1 : Int32) (l2 : Int32) : Option Int32 :=
  rz (if l1 = l2 then ((0 : Int32)) else (if l1 = l0 then ((0 : Int32)) else (if l2 = l0 then ((0 : Int32)) else ((1 : Int32)))))
set_option maxHeartbeats 4000000 in
set_option maxRecDepth 100000 in
theorem t_Three_differ {h : Hp} {l0 : Int32} {l1 : Int32} {l2 : Int32} {r : Int32} (C : Cx base D cI cZ b_Three_differ 3 "MovedFolders$Three" "differ" (some .boolean) p s m args meth c) (hM : f_Three_differ l0 l1 l2 = some r) (H : Heap) (locs : List Loc) (ls : Array Slot) (hS : RS base D cI cZ s H locs h) (hl : lv_has ls 3 [(0, .int l0), (1, .int l1), (2, .int l2)]) : Wg l base D cI cZ 0 0 0 0 h (some (.int r)) p e s m args below meth c H locs 0 0 (F0 m 0 ls []) := by
  have hx := C.1
  have hb := C.2.1
  unfold f_Three_differ at hM
  refine lv_iload_n hx hb d_Three_differ_0 rfl (lv_at hl 1 rfl) ?_
  refine lv_iload_n hx hb d_Three_differ_1 rfl (lv_at hl 2 rfl) ?_
  have kJ20_1 : ∀ (H : Heap) (locs : List Loc) (ls : Array Slot), RS base D cI cZ s H locs h → lv_has ls 3 [] → Wg l base D cI cZ 0 0 0 0 h (some (.int r)) p e s m args below meth c H locs 0 0 (F0 m 20 ls [.int (if l1 = l2 then ((0 : Int32)) else (if l1 = l0 then ((0 : Int32)) else (if l2 = l0 then ((0 : Int32)) else ((1 : Int32)))))]) := by
    intro H locs ls hS hl
    exact r_zret C hS hM d_Three_differ_20
  refine lv_icmp_eq (tgt := 19) hx hb d_Three_differ_2 (by decide) (fun c2_2 => ?_) (fun c2_2 => ?_)
  · rw [if_pos c2_2] at kJ20_1
    refine lv_iconst (v := (0 : Int32)) hx hb d_Three_differ_19 (by decide) ?_
    exact kJ20_1 _ _ _ hS (lv_sub hl [] rfl)
  · rw [if_neg c2_2] at kJ20_1
    refine lv_iload_n hx hb d_Three_differ_5 rfl (lv_at hl 1 rfl) ?_
    refine lv_iload_n hx hb d_Three_differ_6 rfl (lv_at hl 0 rfl) ?_
    refine lv_icmp_eq (tgt := 19) hx hb d_Three_differ_7 (by decide) (fun c7_3 => ?_) (fun c7_3 => ?_)
    · rw [if_pos c7_3] at kJ20_1
      refine lv_iconst (v := (0 : Int32)) hx hb d_Three_differ_19 (by decide) ?_
      exact kJ20_1 _ _ _ hS (lv_sub hl [] rfl)
    · rw [if_neg c7_3] at kJ20_1
      refine lv_iload_n hx hb d_Three_differ_10 rfl (lv_at hl 2 rfl) ?_
      refine lv_iload_n hx hb d_Three_differ_11 rfl (lv_at hl 0 rfl) ?_
      refine lv_icmp_eq (tgt := 19) hx hb d_Three_differ_12 (by decide) (fun c12_4 => ?_) (fun c12_4 => ?_)
      · rw [if_pos c12_4] at kJ20_1
        refine lv_iconst (v := (0 : Int32)) hx hb d_Three_differ_19 (by decide) ?_
        exact kJ20_1 _ _ _ hS (lv_sub hl [] rfl)
      · rw [if_neg c12_4] at kJ20_1
        refine lv_iconst (v := (1 : Int32)) hx hb d_Three_differ_15 (by decide) ?_
        refine lv_goto (tgt := 20) hx hb d_Three_differ_16 (by decide) ?_
        exact kJ20_1 _ _ _ hS (lv_sub hl [] rfl)
theorem c_Three_differ (l : Launch) (base : Nat) (D : va_G) (cI cZ : ClassId) (h : Hp) (l0 : Int32) (l1 : Int32) (l2 : Int32) {r : Int32} (hM : f_Three_differ l0 l1 l2 = some r) : Ct l base D cI cZ y_Three_differ b_Three_differ 3 (some .boolean) 0 0 0 0 h [.int l0, .int l1, .int l2] h (some (.int r)) :=
  ct_of (by decide) (Nat.le_of_ble_eq_true rfl) (fun p e s m below meth c ls C hS hl => t_Three_differ C hM _ _ _ hS hl)
theorem d_Merge_pathsClash_0 : decode b_Merge_pathsClash 0 = .ok (.iload_n 0, 1) := by decide +kernel
theorem d_Merge_pathsClash_1 : decode b_Merge_pathsClash 1 = .ok (.invokestatic 137, 3) := by decide +kernel
theorem d_Merge_pathsClash_4 : decode b_Merge_pathsClash 4 = .ok (.iload_n 1, 1) := by decide +kernel
theorem d_Merge_pathsClash_5 : decode b_Merge_pathsClash 5 = .ok (.invokestatic 137, 3) := by decide +kernel
theorem d_Merge_pathsClash_8 : decode b_Merge_pathsClash 8 = .ok (.iload_n 2, 1) := by decide +kernel
theorem d_Merge_pathsClash_9 : decode b_Merge_pathsClash 9 = .ok (.invokestatic 137, 3) := by decide +kernel
theorem d_Merge_pathsClash_12 : decode b_Merge_pathsClash 12 = .ok (.invokestatic 140, 3) := by decide +kernel
theorem d_Merge_pathsClash_15 : decode b_Merge_pathsClash 15 = .ok (.ifCond .ne 21, 3) := by decide +kernel
theorem d_Merge_pathsClash_18 : decode b_Merge_pathsClash 18 = .ok (.iload_n 0, 1) := by decide +kernel
theorem d_Merge_pathsClash_19 : decode b_Merge_pathsClash 19 = .ok (.invokestatic 121, 3) := by decide +kernel
theorem d_Merge_pathsClash_22 : decode b_Merge_pathsClash 22 = .ok (.iload_n 1, 1) := by decide +kernel
theorem d_Merge_pathsClash_23 : decode b_Merge_pathsClash 23 = .ok (.invokestatic 121, 3) := by decide +kernel
theorem d_Merge_pathsClash_26 : decode b_Merge_pathsClash 26 = .ok (.iload_n 2, 1) := by decide +kernel
theorem d_Merge_pathsClash_27 : decode b_Merge_pathsClash 27 = .ok (.invokestatic 121, 3) := by decide +kernel
theorem d_Merge_pathsClash_30 : decode b_Merge_pathsClash 30 = .ok (.invokestatic 140, 3) := by decide +kernel
theorem d_Merge_pathsClash_33 : decode b_Merge_pathsClash 33 = .ok (.ifCond .eq 7, 3) := by decide +kernel
theorem d_Merge_pathsClash_36 : decode b_Merge_pathsClash 36 = .ok (.iconst 1, 1) := by decide +kernel
theorem d_Merge_pathsClash_37 : decode b_Merge_pathsClash 37 = .ok (.goto 4, 3) := by decide +kernel
theorem d_Merge_pathsClash_40 : decode b_Merge_pathsClash 40 = .ok (.iconst 0, 1) := by decide +kernel
theorem d_Merge_pathsClash_41 : decode b_Merge_pathsClash 41 = .ok (.ireturn, 1) := by decide +kernel
def f_Merge_pathsClash (l0 : Int32) (l1 : Int32) (l2 : Int32) : Option Int32 :=
  (f_Letters_folderOf l0).bind fun t1 =>
  (f_Letters_folderOf l1).bind fun t2 =>
  (f_Letters_folderOf l2).bind fun t3 =>
  (f_Three_differ t1 t2 t3).bind fun t4 =>
  (
    if t4 = (0 : Int32) then (
      (f_Letters_nameOf l0).bind fun t6 =>
      (f_Letters_nameOf l1).bind fun t7 =>
      (f_Letters_nameOf l2).bind fun t8 =>
      (f_Three_differ t6 t7 t8).bind fun t9 =>
      if t9 = (0 : Int32) then (
        some (0 : Int32)
      ) else (
        some (1 : Int32)
      )
    ) else (
      some (1 : Int32)
    )
  ).bind fun t5 =>
  rz t5
set_option maxHeartbeats 4000000 in
set_option maxRecDepth 100000 in
theorem t_Merge_pathsClash {h : Hp} {l0 : Int32} {l1 : Int32} {l2 : Int32} {r : Int32} (C : Cx base D cI cZ b_Merge_pathsClash 3 "MovedFolders$Merge" "pathsClash" (some .boolean) p s m args meth c) (hM : f_Merge_pathsClash l0 l1 l2 = some r) (H : Heap) (locs : List Loc) (ls : Array Slot) (hS : RS base D cI cZ s H locs h) (hl : lv_has ls 3 [(0, .int l0), (1, .int l1), (2, .int l2)]) : Wg l base D cI cZ 1 22 0 0 h (some (.int r)) p e s m args below meth c H locs 0 0 (F0 m 0 ls []) := by
  have hx := C.1
  have hb := C.2.1
  unfold f_Merge_pathsClash at hM
  refine lv_iload_n hx hb d_Merge_pathsClash_0 rfl (lv_at hl 0 rfl) ?_
  obtain ⟨t1, et1, hM⟩ := bS hM
  refine r_callSi (x := t1) C hS cs_Merge_137 (c_Letters_folderOf l base D cI cZ h l0 et1) (rest := []) rfl hl.1 rfl (Nat.le_of_ble_eq_true rfl) ⟨(Nat.le_of_ble_eq_true rfl), (Nat.le_of_ble_eq_true rfl)⟩ ⟨(Nat.le_of_ble_eq_true rfl), (Nat.le_of_ble_eq_true rfl)⟩ d_Merge_pathsClash_1 (fun H locs hS => ?_)
  refine lv_iload_n hx hb d_Merge_pathsClash_4 rfl (lv_at hl 1 rfl) ?_
  obtain ⟨t2, et2, hM⟩ := bS hM
  refine r_callSi (x := t2) C hS cs_Merge_137 (c_Letters_folderOf l base D cI cZ h l1 et2) (rest := [.int t1]) rfl hl.1 rfl (Nat.le_of_ble_eq_true rfl) ⟨(Nat.le_of_ble_eq_true rfl), (Nat.le_of_ble_eq_true rfl)⟩ ⟨(Nat.le_of_ble_eq_true rfl), (Nat.le_of_ble_eq_true rfl)⟩ d_Merge_pathsClash_5 (fun H locs hS => ?_)
  refine lv_iload_n hx hb d_Merge_pathsClash_8 rfl (lv_at hl 2 rfl) ?_
  obtain ⟨t3, et3, hM⟩ := bS hM
  refine r_callSi (x := t3) C hS cs_Merge_137 (c_Letters_folderOf l base D cI cZ h l2 et3) (rest := [.int t2, .int t1]) rfl hl.1 rfl (Nat.le_of_ble_eq_true rfl) ⟨(Nat.le_of_ble_eq_true rfl), (Nat.le_of_ble_eq_true rfl)⟩ ⟨(Nat.le_of_ble_eq_true rfl), (Nat.le_of_ble_eq_true rfl)⟩ d_Merge_pathsClash_9 (fun H locs hS => ?_)
  obtain ⟨t4, et4, hM⟩ := bS hM
  refine r_callSi (x := t4) C hS cs_Merge_140 (c_Three_differ l base D cI cZ h t1 t2 t3 et4) (rest := []) rfl hl.1 rfl (Nat.le_of_ble_eq_true rfl) ⟨(Nat.le_of_ble_eq_true rfl), (Nat.le_of_ble_eq_true rfl)⟩ ⟨(Nat.le_of_ble_eq_true rfl), (Nat.le_of_ble_eq_true rfl)⟩ d_Merge_pathsClash_12 (fun H locs hS => ?_)
  obtain ⟨t5, et5, hM⟩ := bS hM
  have kJ41_1 : ∀ (H : Heap) (locs : List Loc) (ls : Array Slot), RS base D cI cZ s H locs h → lv_has ls 3 [] → Wg l base D cI cZ 1 22 0 0 h (some (.int r)) p e s m args below meth c H locs 0 0 (F0 m 41 ls [.int t5]) := by
    intro H locs ls hS hl
    exact r_zret C hS hM d_Merge_pathsClash_41
  refine lv_if_ne (tgt := 36) hx hb d_Merge_pathsClash_15 (by decide) (fun c15_2 => ?_) (fun c15_2 => ?_)
  · rw [if_neg c15_2] at et5
    refine lv_iconst (v := (1 : Int32)) hx hb d_Merge_pathsClash_36 (by decide) ?_
    refine lv_goto (tgt := 41) hx hb d_Merge_pathsClash_37 (by decide) ?_
    obtain rfl := Option.some.inj et5
    exact kJ41_1 _ _ _ hS (lv_sub hl [] rfl)
  · rw [if_pos c15_2] at et5
    refine lv_iload_n hx hb d_Merge_pathsClash_18 rfl (lv_at hl 0 rfl) ?_
    obtain ⟨t6, et6, et5⟩ := bS et5
    refine r_callSi (x := t6) C hS cs_Merge_121 (c_Letters_nameOf l base D cI cZ h l0 et6) (rest := []) rfl hl.1 rfl (Nat.le_of_ble_eq_true rfl) ⟨(Nat.le_of_ble_eq_true rfl), (Nat.le_of_ble_eq_true rfl)⟩ ⟨(Nat.le_of_ble_eq_true rfl), (Nat.le_of_ble_eq_true rfl)⟩ d_Merge_pathsClash_19 (fun H locs hS => ?_)
    refine lv_iload_n hx hb d_Merge_pathsClash_22 rfl (lv_at hl 1 rfl) ?_
    obtain ⟨t7, et7, et5⟩ := bS et5
    refine r_callSi (x := t7) C hS cs_Merge_121 (c_Letters_nameOf l base D cI cZ h l1 et7) (rest := [.int t6]) rfl hl.1 rfl (Nat.le_of_ble_eq_true rfl) ⟨(Nat.le_of_ble_eq_true rfl), (Nat.le_of_ble_eq_true rfl)⟩ ⟨(Nat.le_of_ble_eq_true rfl), (Nat.le_of_ble_eq_true rfl)⟩ d_Merge_pathsClash_23 (fun H locs hS => ?_)
    refine lv_iload_n hx hb d_Merge_pathsClash_26 rfl (lv_at hl 2 rfl) ?_
    obtain ⟨t8, et8, et5⟩ := bS et5
    refine r_callSi (x := t8) C hS cs_Merge_121 (c_Letters_nameOf l base D cI cZ h l2 et8) (rest := [.int t7, .int t6]) rfl hl.1 rfl (Nat.le_of_ble_eq_true rfl) ⟨(Nat.le_of_ble_eq_true rfl), (Nat.le_of_ble_eq_true rfl)⟩ ⟨(Nat.le_of_ble_eq_true rfl), (Nat.le_of_ble_eq_true rfl)⟩ d_Merge_pathsClash_27 (fun H locs hS => ?_)
    obtain ⟨t9, et9, et5⟩ := bS et5
    refine r_callSi (x := t9) C hS cs_Merge_140 (c_Three_differ l base D cI cZ h t6 t7 t8 et9) (rest := []) rfl hl.1 rfl (Nat.le_of_ble_eq_true rfl) ⟨(Nat.le_of_ble_eq_true rfl), (Nat.le_of_ble_eq_true rfl)⟩ ⟨(Nat.le_of_ble_eq_true rfl), (Nat.le_of_ble_eq_true rfl)⟩ d_Merge_pathsClash_30 (fun H locs hS => ?_)
    refine lv_if_eq (tgt := 40) hx hb d_Merge_pathsClash_33 (by decide) (fun c33_3 => ?_) (fun c33_3 => ?_)
    · rw [if_pos c33_3] at et5
      refine lv_iconst (v := (0 : Int32)) hx hb d_Merge_pathsClash_40 (by decide) ?_
      obtain rfl := Option.some.inj et5
      exact kJ41_1 _ _ _ hS (lv_sub hl [] rfl)
    · rw [if_neg c33_3] at et5
      refine lv_iconst (v := (1 : Int32)) hx hb d_Merge_pathsClash_36 (by decide) ?_
      refine lv_goto (tgt := 41) hx hb d_Merge_pathsClash_37 (by decide) ?_
      obtain rfl := Option.some.inj et5
      exact kJ41_1 _ _ _ hS (lv_sub hl [] rfl)
theorem c_Merge_pathsClash (l : Launch) (base : Nat) (D : va_G) (cI cZ : ClassId) (h : Hp) (l0 : Int32) (l1 : Int32) (l2 : Int32) {r : Int32} (hM : f_Merge_pathsClash l0 l1 l2 = some r) : Ct l base D cI cZ y_Merge_pathsClash b_Merge_pathsClash 3 (some .boolean) 1 22 0 0 h [.int l0, .int l1, .int l2] h (some (.int r)) :=
  ct_of (by decide) (Nat.le_of_ble_eq_true rfl) (fun p e s m below meth c ls C hS hl => t_Merge_pathsClash C hM _ _ _ hS hl)
theorem d_Pieces_countOf_0 : decode b_Pieces_countOf 0 = .ok (.iconst 0, 1) := by decide +kernel
theorem d_Pieces_countOf_1 : decode b_Pieces_countOf 1 = .ok (.istore_n 1, 1) := by decide +kernel
theorem d_Pieces_countOf_2 : decode b_Pieces_countOf 2 = .ok (.iload_n 0, 1) := by decide +kernel
theorem d_Pieces_countOf_3 : decode b_Pieces_countOf 3 = .ok (.istore_n 2, 1) := by decide +kernel
theorem d_Pieces_countOf_4 : decode b_Pieces_countOf 4 = .ok (.iconst 0, 1) := by decide +kernel
theorem d_Pieces_countOf_5 : decode b_Pieces_countOf 5 = .ok (.istore_n 3, 1) := by decide +kernel
theorem d_Pieces_countOf_6 : decode b_Pieces_countOf 6 = .ok (.iload_n 3, 1) := by decide +kernel
theorem d_Pieces_countOf_7 : decode b_Pieces_countOf 7 = .ok (.bipush 6, 2) := by decide +kernel
theorem d_Pieces_countOf_9 : decode b_Pieces_countOf 9 = .ok (.if_icmp .ge 28, 3) := by decide +kernel
theorem d_Pieces_countOf_12 : decode b_Pieces_countOf 12 = .ok (.iload_n 1, 1) := by decide +kernel
theorem d_Pieces_countOf_13 : decode b_Pieces_countOf 13 = .ok (.iload_n 2, 1) := by decide +kernel
theorem d_Pieces_countOf_14 : decode b_Pieces_countOf 14 = .ok (.bipush 10, 2) := by decide +kernel
theorem d_Pieces_countOf_16 : decode b_Pieces_countOf 16 = .ok (.if_icmp .lt 7, 3) := by decide +kernel
theorem d_Pieces_countOf_19 : decode b_Pieces_countOf 19 = .ok (.iconst 1, 1) := by decide +kernel
theorem d_Pieces_countOf_20 : decode b_Pieces_countOf 20 = .ok (.goto 4, 3) := by decide +kernel
theorem d_Pieces_countOf_23 : decode b_Pieces_countOf 23 = .ok (.iconst 0, 1) := by decide +kernel
theorem d_Pieces_countOf_24 : decode b_Pieces_countOf 24 = .ok (.iadd, 1) := by decide +kernel
theorem d_Pieces_countOf_25 : decode b_Pieces_countOf 25 = .ok (.istore_n 1, 1) := by decide +kernel
theorem d_Pieces_countOf_26 : decode b_Pieces_countOf 26 = .ok (.iload_n 2, 1) := by decide +kernel
theorem d_Pieces_countOf_27 : decode b_Pieces_countOf 27 = .ok (.bipush 10, 2) := by decide +kernel
theorem d_Pieces_countOf_29 : decode b_Pieces_countOf 29 = .ok (.idiv, 1) := by decide +kernel
theorem d_Pieces_countOf_30 : decode b_Pieces_countOf 30 = .ok (.istore_n 2, 1) := by decide +kernel
theorem d_Pieces_countOf_31 : decode b_Pieces_countOf 31 = .ok (.iinc 3 1, 3) := by decide +kernel
theorem d_Pieces_countOf_34 : decode b_Pieces_countOf 34 = .ok (.goto (-28), 3) := by decide +kernel
theorem d_Pieces_countOf_37 : decode b_Pieces_countOf 37 = .ok (.iload_n 1, 1) := by decide +kernel
theorem d_Pieces_countOf_38 : decode b_Pieces_countOf 38 = .ok (.ireturn, 1) := by decide +kernel
def f_Pieces_countOf_6  : Nat → Int32 → Int32 → Int32 → Option Int32
  | 0, _, _, _ => none
  | n + 1, l1, l2, l3 =>
    if (6 : Int32) ≤ l3 then (
      some l1
    ) else (
      f_Pieces_countOf_6 n (l1 + (if l2 < (10 : Int32) then ((0 : Int32)) else ((1 : Int32)))) (l2 / (10 : Int32)) (l3 + (1 : Int32))
    )
set_option maxHeartbeats 4000000 in
set_option maxRecDepth 100000 in
theorem t_Pieces_countOf_6 {h : Hp} {r : Int32} (C : Cx base D cI cZ b_Pieces_countOf 4 "MovedFolders$Pieces" "countOf" (some .int) p s m args meth c)  : ∀ (n : Nat) (l1 : Int32) (l2 : Int32) (l3 : Int32), f_Pieces_countOf_6 n l1 l2 l3 = some r → ∀ (H : Heap) (locs : List Loc) (ls : Array Slot), RS base D cI cZ s H locs h → lv_has ls 4 [(1, .int l1), (2, .int l2), (3, .int l3)] → Wg l base D cI cZ 0 0 0 0 h (some (.int r)) p e s m args below meth c H locs 0 0 (F0 m 6 ls []) := by
  have hx := C.1
  have hb := C.2.1
  intro n
  induction n with
  | zero =>
    intro l1 l2 l3 hM
    rw [f_Pieces_countOf_6] at hM
    cases hM
  | succ n ih =>
    intro l1 l2 l3 hM H locs ls hS hl
    rw [f_Pieces_countOf_6] at hM
    refine lv_iload_n hx hb d_Pieces_countOf_6 rfl (lv_at hl 2 rfl) ?_
    refine lv_bipush (v := (6 : Int32)) hx hb d_Pieces_countOf_7 (by decide) ?_
    refine lv_icmp_ge (tgt := 37) hx hb d_Pieces_countOf_9 (by decide) (fun c9_1 => ?_) (fun c9_1 => ?_)
    · rw [if_pos c9_1] at hM
      refine lv_iload_n hx hb d_Pieces_countOf_37 rfl (lv_at hl 0 rfl) ?_
      obtain rfl := Option.some.inj hM
      exact r_iret C hS d_Pieces_countOf_38
    · rw [if_neg c9_1] at hM
      refine lv_iload_n hx hb d_Pieces_countOf_12 rfl (lv_at hl 0 rfl) ?_
      refine lv_iload_n hx hb d_Pieces_countOf_13 rfl (lv_at hl 1 rfl) ?_
      refine lv_bipush (v := (10 : Int32)) hx hb d_Pieces_countOf_14 (by decide) ?_
      have kJ24_2 : ∀ (H : Heap) (locs : List Loc) (ls : Array Slot), RS base D cI cZ s H locs h → lv_has ls 4 [(2, .int l2), (3, .int l3)] → Wg l base D cI cZ 0 0 0 0 h (some (.int r)) p e s m args below meth c H locs 0 0 (F0 m 24 ls [.int (if l2 < (10 : Int32) then ((0 : Int32)) else ((1 : Int32))), .int l1]) := by
        intro H locs ls hS hl
        refine lv_iadd hx hb d_Pieces_countOf_24 ?_
        refine lv_istore_n (lv' := [(1, .int (l1 + (if l2 < (10 : Int32) then ((0 : Int32)) else ((1 : Int32))))), (2, .int l2), (3, .int l3)]) hx hb d_Pieces_countOf_25 rfl hl (by decide) rfl (fun ls hl => ?_)
        refine lv_iload_n hx hb d_Pieces_countOf_26 rfl (lv_at hl 1 rfl) ?_
        refine lv_bipush (v := (10 : Int32)) hx hb d_Pieces_countOf_27 (by decide) ?_
        refine lv_idiv hx hb d_Pieces_countOf_29 (by decide) ?_
        refine lv_istore_n (lv' := [(2, .int (l2 / (10 : Int32))), (1, .int (l1 + (if l2 < (10 : Int32) then ((0 : Int32)) else ((1 : Int32))))), (3, .int l3)]) hx hb d_Pieces_countOf_30 rfl hl (by decide) rfl (fun ls hl => ?_)
        refine lv_iinc (v := (l3 + (1 : Int32))) (lv' := [(3, .int (l3 + (1 : Int32))), (2, .int (l2 / (10 : Int32))), (1, .int (l1 + (if l2 < (10 : Int32) then ((0 : Int32)) else ((1 : Int32)))))]) hx hb d_Pieces_countOf_31 hl (k := 2) rfl (by rw [oi_1]) (by decide) rfl (fun ls hl => ?_)
        refine lv_goto (tgt := 6) hx hb d_Pieces_countOf_34 (by decide) ?_
        exact ih (l1 + (if l2 < (10 : Int32) then ((0 : Int32)) else ((1 : Int32)))) (l2 / (10 : Int32)) (l3 + (1 : Int32)) hM _ _ _ hS (lv_sub hl [2, 1, 0] rfl)
      refine lv_icmp_lt (tgt := 23) hx hb d_Pieces_countOf_16 (by decide) (fun c16_3 => ?_) (fun c16_3 => ?_)
      · rw [if_pos c16_3] at kJ24_2
        refine lv_iconst (v := (0 : Int32)) hx hb d_Pieces_countOf_23 (by decide) ?_
        exact kJ24_2 _ _ _ hS (lv_sub hl [1, 2] rfl)
      · rw [if_neg c16_3] at kJ24_2
        refine lv_iconst (v := (1 : Int32)) hx hb d_Pieces_countOf_19 (by decide) ?_
        refine lv_goto (tgt := 24) hx hb d_Pieces_countOf_20 (by decide) ?_
        exact kJ24_2 _ _ _ hS (lv_sub hl [1, 2] rfl)
def f_Pieces_countOf (l0 : Int32) : Option Int32 :=
  f_Pieces_countOf_6 FU (0 : Int32) l0 (0 : Int32)
set_option maxHeartbeats 4000000 in
set_option maxRecDepth 100000 in
theorem t_Pieces_countOf {h : Hp} {l0 : Int32} {r : Int32} (C : Cx base D cI cZ b_Pieces_countOf 4 "MovedFolders$Pieces" "countOf" (some .int) p s m args meth c) (hM : f_Pieces_countOf l0 = some r) (H : Heap) (locs : List Loc) (ls : Array Slot) (hS : RS base D cI cZ s H locs h) (hl : lv_has ls 4 [(0, .int l0)]) : Wg l base D cI cZ 0 0 0 0 h (some (.int r)) p e s m args below meth c H locs 0 0 (F0 m 0 ls []) := by
  have hx := C.1
  have hb := C.2.1
  unfold f_Pieces_countOf at hM
  refine lv_iconst (v := (0 : Int32)) hx hb d_Pieces_countOf_0 (by decide) ?_
  refine lv_istore_n (lv' := [(1, .int (0 : Int32)), (0, .int l0)]) hx hb d_Pieces_countOf_1 rfl hl (by decide) rfl (fun ls hl => ?_)
  refine lv_iload_n hx hb d_Pieces_countOf_2 rfl (lv_at hl 1 rfl) ?_
  refine lv_istore_n (lv' := [(2, .int l0), (1, .int (0 : Int32)), (0, .int l0)]) hx hb d_Pieces_countOf_3 rfl hl (by decide) rfl (fun ls hl => ?_)
  refine lv_iconst (v := (0 : Int32)) hx hb d_Pieces_countOf_4 (by decide) ?_
  refine lv_istore_n (lv' := [(3, .int (0 : Int32)), (2, .int l0), (1, .int (0 : Int32)), (0, .int l0)]) hx hb d_Pieces_countOf_5 rfl hl (by decide) rfl (fun ls hl => ?_)
  exact t_Pieces_countOf_6  C  FU (0 : Int32) l0 (0 : Int32) hM _ _ _ hS (lv_sub hl [2, 1, 0] rfl)
theorem c_Pieces_countOf (l : Launch) (base : Nat) (D : va_G) (cI cZ : ClassId) (h : Hp) (l0 : Int32) {r : Int32} (hM : f_Pieces_countOf l0 = some r) : Ct l base D cI cZ y_Pieces_countOf b_Pieces_countOf 4 (some .int) 0 0 0 0 h [.int l0] h (some (.int r)) :=
  ct_of (by decide) (Nat.le_of_ble_eq_true rfl) (fun p e s m below meth c ls C hS hl => t_Pieces_countOf C hM _ _ _ hS hl)
theorem d_Three_sameCount_0 : decode b_Three_sameCount 0 = .ok (.iload_n 0, 1) := by decide +kernel
theorem d_Three_sameCount_1 : decode b_Three_sameCount 1 = .ok (.invokestatic 15, 3) := by decide +kernel
theorem d_Three_sameCount_4 : decode b_Three_sameCount 4 = .ok (.istore_n 3, 1) := by decide +kernel
theorem d_Three_sameCount_5 : decode b_Three_sameCount 5 = .ok (.iload_n 3, 1) := by decide +kernel
theorem d_Three_sameCount_6 : decode b_Three_sameCount 6 = .ok (.iload_n 1, 1) := by decide +kernel
theorem d_Three_sameCount_7 : decode b_Three_sameCount 7 = .ok (.invokestatic 15, 3) := by decide +kernel
theorem d_Three_sameCount_10 : decode b_Three_sameCount 10 = .ok (.if_icmp .ne 15, 3) := by decide +kernel
theorem d_Three_sameCount_13 : decode b_Three_sameCount 13 = .ok (.iload_n 3, 1) := by decide +kernel
theorem d_Three_sameCount_14 : decode b_Three_sameCount 14 = .ok (.iload_n 2, 1) := by decide +kernel
theorem d_Three_sameCount_15 : decode b_Three_sameCount 15 = .ok (.invokestatic 15, 3) := by decide +kernel
theorem d_Three_sameCount_18 : decode b_Three_sameCount 18 = .ok (.if_icmp .ne 7, 3) := by decide +kernel
theorem d_Three_sameCount_21 : decode b_Three_sameCount 21 = .ok (.iconst 1, 1) := by decide +kernel
theorem d_Three_sameCount_22 : decode b_Three_sameCount 22 = .ok (.goto 4, 3) := by decide +kernel
theorem d_Three_sameCount_25 : decode b_Three_sameCount 25 = .ok (.iconst 0, 1) := by decide +kernel
theorem d_Three_sameCount_26 : decode b_Three_sameCount 26 = .ok (.ireturn, 1) := by decide +kernel
def f_Three_sameCount (l0 : Int32) (l1 : Int32) (l2 : Int32) : Option Int32 :=
  (f_Pieces_countOf l0).bind fun t1 =>
  (f_Pieces_countOf l1).bind fun t2 =>
  (
    if t1 = t2 then (
      (f_Pieces_countOf l2).bind fun t4 =>
      if t1 = t4 then (
        some (1 : Int32)
      ) else (
        some (0 : Int32)
      )
    ) else (
      some (0 : Int32)
    )
  ).bind fun t3 =>
  rz t3
set_option maxHeartbeats 4000000 in
set_option maxRecDepth 100000 in
theorem t_Three_sameCount {h : Hp} {l0 : Int32} {l1 : Int32} {l2 : Int32} {r : Int32} (C : Cx base D cI cZ b_Three_sameCount 4 "MovedFolders$Three" "sameCount" (some .boolean) p s m args meth c) (hM : f_Three_sameCount l0 l1 l2 = some r) (H : Heap) (locs : List Loc) (ls : Array Slot) (hS : RS base D cI cZ s H locs h) (hl : lv_has ls 4 [(0, .int l0), (1, .int l1), (2, .int l2)]) : Wg l base D cI cZ 1 23 0 0 h (some (.int r)) p e s m args below meth c H locs 0 0 (F0 m 0 ls []) := by
  have hx := C.1
  have hb := C.2.1
  unfold f_Three_sameCount at hM
  refine lv_iload_n hx hb d_Three_sameCount_0 rfl (lv_at hl 0 rfl) ?_
  obtain ⟨t1, et1, hM⟩ := bS hM
  refine r_callSi (x := t1) C hS cs_Three_15 (c_Pieces_countOf l base D cI cZ h l0 et1) (rest := []) rfl hl.1 rfl (Nat.le_of_ble_eq_true rfl) ⟨(Nat.le_of_ble_eq_true rfl), (Nat.le_of_ble_eq_true rfl)⟩ ⟨(Nat.le_of_ble_eq_true rfl), (Nat.le_of_ble_eq_true rfl)⟩ d_Three_sameCount_1 (fun H locs hS => ?_)
  refine lv_istore_n (lv' := [(3, .int t1), (0, .int l0), (1, .int l1), (2, .int l2)]) hx hb d_Three_sameCount_4 rfl hl (by decide) rfl (fun ls hl => ?_)
  refine lv_iload_n hx hb d_Three_sameCount_5 rfl (lv_at hl 0 rfl) ?_
  refine lv_iload_n hx hb d_Three_sameCount_6 rfl (lv_at hl 2 rfl) ?_
  obtain ⟨t2, et2, hM⟩ := bS hM
  refine r_callSi (x := t2) C hS cs_Three_15 (c_Pieces_countOf l base D cI cZ h l1 et2) (rest := [.int t1]) rfl hl.1 rfl (Nat.le_of_ble_eq_true rfl) ⟨(Nat.le_of_ble_eq_true rfl), (Nat.le_of_ble_eq_true rfl)⟩ ⟨(Nat.le_of_ble_eq_true rfl), (Nat.le_of_ble_eq_true rfl)⟩ d_Three_sameCount_7 (fun H locs hS => ?_)
  obtain ⟨t3, et3, hM⟩ := bS hM
  have kJ26_1 : ∀ (H : Heap) (locs : List Loc) (ls : Array Slot), RS base D cI cZ s H locs h → lv_has ls 4 [] → Wg l base D cI cZ 1 23 0 0 h (some (.int r)) p e s m args below meth c H locs 0 0 (F0 m 26 ls [.int t3]) := by
    intro H locs ls hS hl
    exact r_zret C hS hM d_Three_sameCount_26
  refine lv_icmp_ne (tgt := 25) hx hb d_Three_sameCount_10 (by decide) (fun c10_2 => ?_) (fun c10_2 => ?_)
  · rw [if_neg c10_2] at et3
    refine lv_iconst (v := (0 : Int32)) hx hb d_Three_sameCount_25 (by decide) ?_
    obtain rfl := Option.some.inj et3
    exact kJ26_1 _ _ _ hS (lv_sub hl [] rfl)
  · rw [if_pos c10_2] at et3
    refine lv_iload_n hx hb d_Three_sameCount_13 rfl (lv_at hl 0 rfl) ?_
    refine lv_iload_n hx hb d_Three_sameCount_14 rfl (lv_at hl 3 rfl) ?_
    obtain ⟨t4, et4, et3⟩ := bS et3
    refine r_callSi (x := t4) C hS cs_Three_15 (c_Pieces_countOf l base D cI cZ h l2 et4) (rest := [.int t1]) rfl hl.1 rfl (Nat.le_of_ble_eq_true rfl) ⟨(Nat.le_of_ble_eq_true rfl), (Nat.le_of_ble_eq_true rfl)⟩ ⟨(Nat.le_of_ble_eq_true rfl), (Nat.le_of_ble_eq_true rfl)⟩ d_Three_sameCount_15 (fun H locs hS => ?_)
    refine lv_icmp_ne (tgt := 25) hx hb d_Three_sameCount_18 (by decide) (fun c18_3 => ?_) (fun c18_3 => ?_)
    · rw [if_neg c18_3] at et3
      refine lv_iconst (v := (0 : Int32)) hx hb d_Three_sameCount_25 (by decide) ?_
      obtain rfl := Option.some.inj et3
      exact kJ26_1 _ _ _ hS (lv_sub hl [] rfl)
    · rw [if_pos c18_3] at et3
      refine lv_iconst (v := (1 : Int32)) hx hb d_Three_sameCount_21 (by decide) ?_
      refine lv_goto (tgt := 26) hx hb d_Three_sameCount_22 (by decide) ?_
      obtain rfl := Option.some.inj et3
      exact kJ26_1 _ _ _ hS (lv_sub hl [] rfl)
theorem c_Three_sameCount (l : Launch) (base : Nat) (D : va_G) (cI cZ : ClassId) (h : Hp) (l0 : Int32) (l1 : Int32) (l2 : Int32) {r : Int32} (hM : f_Three_sameCount l0 l1 l2 = some r) : Ct l base D cI cZ y_Three_sameCount b_Three_sameCount 4 (some .boolean) 1 23 0 0 h [.int l0, .int l1, .int l2] h (some (.int r)) :=
  ct_of (by decide) (Nat.le_of_ble_eq_true rfl) (fun p e s m below meth c ls C hS hl => t_Three_sameCount C hM _ _ _ hS hl)
theorem d_Three_contentsClash_0 : decode b_Three_contentsClash 0 = .ok (.iload_n 0, 1) := by decide +kernel
theorem d_Three_contentsClash_1 : decode b_Three_contentsClash 1 = .ok (.iload_n 1, 1) := by decide +kernel
theorem d_Three_contentsClash_2 : decode b_Three_contentsClash 2 = .ok (.iload_n 2, 1) := by decide +kernel
theorem d_Three_contentsClash_3 : decode b_Three_contentsClash 3 = .ok (.invokestatic 21, 3) := by decide +kernel
theorem d_Three_contentsClash_6 : decode b_Three_contentsClash 6 = .ok (.ifCond .eq 12, 3) := by decide +kernel
theorem d_Three_contentsClash_9 : decode b_Three_contentsClash 9 = .ok (.iload_n 0, 1) := by decide +kernel
theorem d_Three_contentsClash_10 : decode b_Three_contentsClash 10 = .ok (.iload_n 1, 1) := by decide +kernel
theorem d_Three_contentsClash_11 : decode b_Three_contentsClash 11 = .ok (.iload_n 2, 1) := by decide +kernel
theorem d_Three_contentsClash_12 : decode b_Three_contentsClash 12 = .ok (.invokestatic 27, 3) := by decide +kernel
theorem d_Three_contentsClash_15 : decode b_Three_contentsClash 15 = .ok (.ifCond .ne 10, 3) := by decide +kernel
theorem d_Three_contentsClash_18 : decode b_Three_contentsClash 18 = .ok (.iload_n 0, 1) := by decide +kernel
theorem d_Three_contentsClash_19 : decode b_Three_contentsClash 19 = .ok (.iload_n 1, 1) := by decide +kernel
theorem d_Three_contentsClash_20 : decode b_Three_contentsClash 20 = .ok (.iload_n 2, 1) := by decide +kernel
theorem d_Three_contentsClash_21 : decode b_Three_contentsClash 21 = .ok (.invokestatic 21, 3) := by decide +kernel
theorem d_Three_contentsClash_24 : decode b_Three_contentsClash 24 = .ok (.ireturn, 1) := by decide +kernel
theorem d_Three_contentsClash_25 : decode b_Three_contentsClash 25 = .ok (.iload_n 0, 1) := by decide +kernel
theorem d_Three_contentsClash_26 : decode b_Three_contentsClash 26 = .ok (.istore_n 3, 1) := by decide +kernel
theorem d_Three_contentsClash_27 : decode b_Three_contentsClash 27 = .ok (.iload_n 1, 1) := by decide +kernel
theorem d_Three_contentsClash_28 : decode b_Three_contentsClash 28 = .ok (.istore 4, 2) := by decide +kernel
theorem d_Three_contentsClash_30 : decode b_Three_contentsClash 30 = .ok (.iload_n 2, 1) := by decide +kernel
theorem d_Three_contentsClash_31 : decode b_Three_contentsClash 31 = .ok (.istore 5, 2) := by decide +kernel
theorem d_Three_contentsClash_33 : decode b_Three_contentsClash 33 = .ok (.iconst 0, 1) := by decide +kernel
theorem d_Three_contentsClash_34 : decode b_Three_contentsClash 34 = .ok (.istore 6, 2) := by decide +kernel
theorem d_Three_contentsClash_36 : decode b_Three_contentsClash 36 = .ok (.iload 6, 2) := by decide +kernel
theorem d_Three_contentsClash_38 : decode b_Three_contentsClash 38 = .ok (.bipush 6, 2) := by decide +kernel
theorem d_Three_contentsClash_40 : decode b_Three_contentsClash 40 = .ok (.if_icmp .ge 50, 3) := by decide +kernel
theorem d_Three_contentsClash_43 : decode b_Three_contentsClash 43 = .ok (.iload_n 3, 1) := by decide +kernel
theorem d_Three_contentsClash_44 : decode b_Three_contentsClash 44 = .ok (.bipush 10, 2) := by decide +kernel
theorem d_Three_contentsClash_46 : decode b_Three_contentsClash 46 = .ok (.irem, 1) := by decide +kernel
theorem d_Three_contentsClash_47 : decode b_Three_contentsClash 47 = .ok (.iload 4, 2) := by decide +kernel
theorem d_Three_contentsClash_49 : decode b_Three_contentsClash 49 = .ok (.bipush 10, 2) := by decide +kernel
theorem d_Three_contentsClash_51 : decode b_Three_contentsClash 51 = .ok (.irem, 1) := by decide +kernel
theorem d_Three_contentsClash_52 : decode b_Three_contentsClash 52 = .ok (.iload 5, 2) := by decide +kernel
theorem d_Three_contentsClash_54 : decode b_Three_contentsClash 54 = .ok (.bipush 10, 2) := by decide +kernel
theorem d_Three_contentsClash_56 : decode b_Three_contentsClash 56 = .ok (.irem, 1) := by decide +kernel
theorem d_Three_contentsClash_57 : decode b_Three_contentsClash 57 = .ok (.invokestatic 21, 3) := by decide +kernel
theorem d_Three_contentsClash_60 : decode b_Three_contentsClash 60 = .ok (.ifCond .eq 5, 3) := by decide +kernel
theorem d_Three_contentsClash_63 : decode b_Three_contentsClash 63 = .ok (.iconst 1, 1) := by decide +kernel
theorem d_Three_contentsClash_64 : decode b_Three_contentsClash 64 = .ok (.ireturn, 1) := by decide +kernel
theorem d_Three_contentsClash_65 : decode b_Three_contentsClash 65 = .ok (.iload_n 3, 1) := by decide +kernel
theorem d_Three_contentsClash_66 : decode b_Three_contentsClash 66 = .ok (.bipush 10, 2) := by decide +kernel
theorem d_Three_contentsClash_68 : decode b_Three_contentsClash 68 = .ok (.idiv, 1) := by decide +kernel
theorem d_Three_contentsClash_69 : decode b_Three_contentsClash 69 = .ok (.istore_n 3, 1) := by decide +kernel
theorem d_Three_contentsClash_70 : decode b_Three_contentsClash 70 = .ok (.iload 4, 2) := by decide +kernel
theorem d_Three_contentsClash_72 : decode b_Three_contentsClash 72 = .ok (.bipush 10, 2) := by decide +kernel
theorem d_Three_contentsClash_74 : decode b_Three_contentsClash 74 = .ok (.idiv, 1) := by decide +kernel
theorem d_Three_contentsClash_75 : decode b_Three_contentsClash 75 = .ok (.istore 4, 2) := by decide +kernel
theorem d_Three_contentsClash_77 : decode b_Three_contentsClash 77 = .ok (.iload 5, 2) := by decide +kernel
theorem d_Three_contentsClash_79 : decode b_Three_contentsClash 79 = .ok (.bipush 10, 2) := by decide +kernel
theorem d_Three_contentsClash_81 : decode b_Three_contentsClash 81 = .ok (.idiv, 1) := by decide +kernel
theorem d_Three_contentsClash_82 : decode b_Three_contentsClash 82 = .ok (.istore 5, 2) := by decide +kernel
theorem d_Three_contentsClash_84 : decode b_Three_contentsClash 84 = .ok (.iinc 6 1, 3) := by decide +kernel
theorem d_Three_contentsClash_87 : decode b_Three_contentsClash 87 = .ok (.goto (-51), 3) := by decide +kernel
theorem d_Three_contentsClash_90 : decode b_Three_contentsClash 90 = .ok (.iconst 0, 1) := by decide +kernel
theorem d_Three_contentsClash_91 : decode b_Three_contentsClash 91 = .ok (.ireturn, 1) := by decide +kernel
def f_Three_contentsClash_18 (l0 : Int32) (l1 : Int32) (l2 : Int32) : Option Int32 :=
  (f_Three_differ l0 l1 l2).bind fun t2 =>
  rz t2
set_option maxHeartbeats 4000000 in
set_option maxRecDepth 100000 in
theorem t_Three_contentsClash_18 {h : Hp} {l0 : Int32} {l1 : Int32} {l2 : Int32} {r : Int32} (C : Cx base D cI cZ b_Three_contentsClash 7 "MovedFolders$Three" "contentsClash" (some .boolean) p s m args meth c)  (hM : f_Three_contentsClash_18 l0 l1 l2 = some r) (H : Heap) (locs : List Loc) (ls : Array Slot) (hS : RS base D cI cZ s H locs h) (hl : lv_has ls 7 [(0, .int l0), (1, .int l1), (2, .int l2)]) : Wg l base D cI cZ 2 46 0 0 h (some (.int r)) p e s m args below meth c H locs 0 0 (F0 m 18 ls []) := by
  have hx := C.1
  have hb := C.2.1
  unfold f_Three_contentsClash_18 at hM
  refine lv_iload_n hx hb d_Three_contentsClash_18 rfl (lv_at hl 0 rfl) ?_
  refine lv_iload_n hx hb d_Three_contentsClash_19 rfl (lv_at hl 1 rfl) ?_
  refine lv_iload_n hx hb d_Three_contentsClash_20 rfl (lv_at hl 2 rfl) ?_
  obtain ⟨t2, et2, hM⟩ := bS hM
  refine r_callSi (x := t2) C hS cs_Three_21 (c_Three_differ l base D cI cZ h l0 l1 l2 et2) (rest := []) rfl hl.1 rfl (Nat.le_of_ble_eq_true rfl) ⟨(Nat.le_of_ble_eq_true rfl), (Nat.le_of_ble_eq_true rfl)⟩ ⟨(Nat.le_of_ble_eq_true rfl), (Nat.le_of_ble_eq_true rfl)⟩ d_Three_contentsClash_21 (fun H locs hS => ?_)
  exact r_zret C hS hM d_Three_contentsClash_24
def f_Three_contentsClash_36  : Nat → Int32 → Int32 → Int32 → Int32 → Option Int32
  | 0, _, _, _, _ => none
  | n + 1, l3, l4, l5, l6 =>
    if (6 : Int32) ≤ l6 then (
      rz (0 : Int32)
    ) else (
      (f_Three_differ (irem l3 (10 : Int32)) (irem l4 (10 : Int32)) (irem l5 (10 : Int32))).bind fun t4 =>
      if t4 = (0 : Int32) then (
        f_Three_contentsClash_36 n (l3 / (10 : Int32)) (l4 / (10 : Int32)) (l5 / (10 : Int32)) (l6 + (1 : Int32))
      ) else (
        rz (1 : Int32)
      )
    )
set_option maxHeartbeats 4000000 in
set_option maxRecDepth 100000 in
theorem t_Three_contentsClash_36 {h : Hp} {r : Int32} (C : Cx base D cI cZ b_Three_contentsClash 7 "MovedFolders$Three" "contentsClash" (some .boolean) p s m args meth c)  : ∀ (n : Nat) (l3 : Int32) (l4 : Int32) (l5 : Int32) (l6 : Int32), f_Three_contentsClash_36 n l3 l4 l5 l6 = some r → ∀ (H : Heap) (locs : List Loc) (ls : Array Slot), RS base D cI cZ s H locs h → lv_has ls 7 [(3, .int l3), (4, .int l4), (5, .int l5), (6, .int l6)] → Wg l base D cI cZ 2 46 0 0 h (some (.int r)) p e s m args below meth c H locs 0 0 (F0 m 36 ls []) := by
  have hx := C.1
  have hb := C.2.1
  intro n
  induction n with
  | zero =>
    intro l3 l4 l5 l6 hM
    rw [f_Three_contentsClash_36] at hM
    cases hM
  | succ n ih =>
    intro l3 l4 l5 l6 hM H locs ls hS hl
    rw [f_Three_contentsClash_36] at hM
    refine lv_iload hx hb d_Three_contentsClash_36 (lv_at hl 3 rfl) ?_
    refine lv_bipush (v := (6 : Int32)) hx hb d_Three_contentsClash_38 (by decide) ?_
    refine lv_icmp_ge (tgt := 90) hx hb d_Three_contentsClash_40 (by decide) (fun c40_3 => ?_) (fun c40_3 => ?_)
    · rw [if_pos c40_3] at hM
      refine lv_iconst (v := (0 : Int32)) hx hb d_Three_contentsClash_90 (by decide) ?_
      exact r_zret C hS hM d_Three_contentsClash_91
    · rw [if_neg c40_3] at hM
      refine lv_iload_n hx hb d_Three_contentsClash_43 rfl (lv_at hl 0 rfl) ?_
      refine lv_bipush (v := (10 : Int32)) hx hb d_Three_contentsClash_44 (by decide) ?_
      refine r_irem hx hb d_Three_contentsClash_46 (by decide) ?_
      refine lv_iload hx hb d_Three_contentsClash_47 (lv_at hl 1 rfl) ?_
      refine lv_bipush (v := (10 : Int32)) hx hb d_Three_contentsClash_49 (by decide) ?_
      refine r_irem hx hb d_Three_contentsClash_51 (by decide) ?_
      refine lv_iload hx hb d_Three_contentsClash_52 (lv_at hl 2 rfl) ?_
      refine lv_bipush (v := (10 : Int32)) hx hb d_Three_contentsClash_54 (by decide) ?_
      refine r_irem hx hb d_Three_contentsClash_56 (by decide) ?_
      obtain ⟨t4, et4, hM⟩ := bS hM
      refine r_callSi (x := t4) C hS cs_Three_21 (c_Three_differ l base D cI cZ h (irem l3 (10 : Int32)) (irem l4 (10 : Int32)) (irem l5 (10 : Int32)) et4) (rest := []) rfl hl.1 rfl (Nat.le_of_ble_eq_true rfl) ⟨(Nat.le_of_ble_eq_true rfl), (Nat.le_of_ble_eq_true rfl)⟩ ⟨(Nat.le_of_ble_eq_true rfl), (Nat.le_of_ble_eq_true rfl)⟩ d_Three_contentsClash_57 (fun H locs hS => ?_)
      refine lv_if_eq (tgt := 65) hx hb d_Three_contentsClash_60 (by decide) (fun c60_4 => ?_) (fun c60_4 => ?_)
      · rw [if_pos c60_4] at hM
        refine lv_iload_n hx hb d_Three_contentsClash_65 rfl (lv_at hl 0 rfl) ?_
        refine lv_bipush (v := (10 : Int32)) hx hb d_Three_contentsClash_66 (by decide) ?_
        refine lv_idiv hx hb d_Three_contentsClash_68 (by decide) ?_
        refine lv_istore_n (lv' := [(3, .int (l3 / (10 : Int32))), (4, .int l4), (5, .int l5), (6, .int l6)]) hx hb d_Three_contentsClash_69 rfl hl (by decide) rfl (fun ls hl => ?_)
        refine lv_iload hx hb d_Three_contentsClash_70 (lv_at hl 1 rfl) ?_
        refine lv_bipush (v := (10 : Int32)) hx hb d_Three_contentsClash_72 (by decide) ?_
        refine lv_idiv hx hb d_Three_contentsClash_74 (by decide) ?_
        refine lv_istore (lv' := [(4, .int (l4 / (10 : Int32))), (3, .int (l3 / (10 : Int32))), (5, .int l5), (6, .int l6)]) hx hb d_Three_contentsClash_75 hl (by decide) rfl (fun ls hl => ?_)
        refine lv_iload hx hb d_Three_contentsClash_77 (lv_at hl 2 rfl) ?_
        refine lv_bipush (v := (10 : Int32)) hx hb d_Three_contentsClash_79 (by decide) ?_
        refine lv_idiv hx hb d_Three_contentsClash_81 (by decide) ?_
        refine lv_istore (lv' := [(5, .int (l5 / (10 : Int32))), (4, .int (l4 / (10 : Int32))), (3, .int (l3 / (10 : Int32))), (6, .int l6)]) hx hb d_Three_contentsClash_82 hl (by decide) rfl (fun ls hl => ?_)
        refine lv_iinc (v := (l6 + (1 : Int32))) (lv' := [(6, .int (l6 + (1 : Int32))), (5, .int (l5 / (10 : Int32))), (4, .int (l4 / (10 : Int32))), (3, .int (l3 / (10 : Int32)))]) hx hb d_Three_contentsClash_84 hl (k := 3) rfl (by rw [oi_1]) (by decide) rfl (fun ls hl => ?_)
        refine lv_goto (tgt := 36) hx hb d_Three_contentsClash_87 (by decide) ?_
        exact ih (l3 / (10 : Int32)) (l4 / (10 : Int32)) (l5 / (10 : Int32)) (l6 + (1 : Int32)) hM _ _ _ hS (lv_sub hl [3, 2, 1, 0] rfl)
      · rw [if_neg c60_4] at hM
        refine lv_iconst (v := (1 : Int32)) hx hb d_Three_contentsClash_63 (by decide) ?_
        exact r_zret C hS hM d_Three_contentsClash_64
def f_Three_contentsClash (l0 : Int32) (l1 : Int32) (l2 : Int32) : Option Int32 :=
  (f_Three_differ l0 l1 l2).bind fun t1 =>
  if t1 = (0 : Int32) then (
    f_Three_contentsClash_18 l0 l1 l2
  ) else (
    (f_Three_sameCount l0 l1 l2).bind fun t3 =>
    if t3 = (0 : Int32) then (
      f_Three_contentsClash_18 l0 l1 l2
    ) else (
      f_Three_contentsClash_36 FU l0 l1 l2 (0 : Int32)
    )
  )
set_option maxHeartbeats 4000000 in
set_option maxRecDepth 100000 in
theorem t_Three_contentsClash {h : Hp} {l0 : Int32} {l1 : Int32} {l2 : Int32} {r : Int32} (C : Cx base D cI cZ b_Three_contentsClash 7 "MovedFolders$Three" "contentsClash" (some .boolean) p s m args meth c) (hM : f_Three_contentsClash l0 l1 l2 = some r) (H : Heap) (locs : List Loc) (ls : Array Slot) (hS : RS base D cI cZ s H locs h) (hl : lv_has ls 7 [(0, .int l0), (1, .int l1), (2, .int l2)]) : Wg l base D cI cZ 2 46 0 0 h (some (.int r)) p e s m args below meth c H locs 0 0 (F0 m 0 ls []) := by
  have hx := C.1
  have hb := C.2.1
  unfold f_Three_contentsClash at hM
  refine lv_iload_n hx hb d_Three_contentsClash_0 rfl (lv_at hl 0 rfl) ?_
  refine lv_iload_n hx hb d_Three_contentsClash_1 rfl (lv_at hl 1 rfl) ?_
  refine lv_iload_n hx hb d_Three_contentsClash_2 rfl (lv_at hl 2 rfl) ?_
  obtain ⟨t1, et1, hM⟩ := bS hM
  refine r_callSi (x := t1) C hS cs_Three_21 (c_Three_differ l base D cI cZ h l0 l1 l2 et1) (rest := []) rfl hl.1 rfl (Nat.le_of_ble_eq_true rfl) ⟨(Nat.le_of_ble_eq_true rfl), (Nat.le_of_ble_eq_true rfl)⟩ ⟨(Nat.le_of_ble_eq_true rfl), (Nat.le_of_ble_eq_true rfl)⟩ d_Three_contentsClash_3 (fun H locs hS => ?_)
  refine lv_if_eq (tgt := 18) hx hb d_Three_contentsClash_6 (by decide) (fun c6_1 => ?_) (fun c6_1 => ?_)
  · rw [if_pos c6_1] at hM
    exact t_Three_contentsClash_18  C  hM _ _ _ hS (lv_sub hl [0, 1, 2] rfl)
  · rw [if_neg c6_1] at hM
    refine lv_iload_n hx hb d_Three_contentsClash_9 rfl (lv_at hl 0 rfl) ?_
    refine lv_iload_n hx hb d_Three_contentsClash_10 rfl (lv_at hl 1 rfl) ?_
    refine lv_iload_n hx hb d_Three_contentsClash_11 rfl (lv_at hl 2 rfl) ?_
    obtain ⟨t3, et3, hM⟩ := bS hM
    refine r_callSi (x := t3) C hS cs_Three_27 (c_Three_sameCount l base D cI cZ h l0 l1 l2 et3) (rest := []) rfl hl.1 rfl (Nat.le_of_ble_eq_true rfl) ⟨(Nat.le_of_ble_eq_true rfl), (Nat.le_of_ble_eq_true rfl)⟩ ⟨(Nat.le_of_ble_eq_true rfl), (Nat.le_of_ble_eq_true rfl)⟩ d_Three_contentsClash_12 (fun H locs hS => ?_)
    refine lv_if_ne (tgt := 25) hx hb d_Three_contentsClash_15 (by decide) (fun c15_2 => ?_) (fun c15_2 => ?_)
    · rw [if_neg c15_2] at hM
      refine lv_iload_n hx hb d_Three_contentsClash_25 rfl (lv_at hl 0 rfl) ?_
      refine lv_istore_n (lv' := [(3, .int l0), (0, .int l0), (1, .int l1), (2, .int l2)]) hx hb d_Three_contentsClash_26 rfl hl (by decide) rfl (fun ls hl => ?_)
      refine lv_iload_n hx hb d_Three_contentsClash_27 rfl (lv_at hl 2 rfl) ?_
      refine lv_istore (lv' := [(4, .int l1), (3, .int l0), (0, .int l0), (1, .int l1), (2, .int l2)]) hx hb d_Three_contentsClash_28 hl (by decide) rfl (fun ls hl => ?_)
      refine lv_iload_n hx hb d_Three_contentsClash_30 rfl (lv_at hl 4 rfl) ?_
      refine lv_istore (lv' := [(5, .int l2), (4, .int l1), (3, .int l0), (0, .int l0), (1, .int l1), (2, .int l2)]) hx hb d_Three_contentsClash_31 hl (by decide) rfl (fun ls hl => ?_)
      refine lv_iconst (v := (0 : Int32)) hx hb d_Three_contentsClash_33 (by decide) ?_
      refine lv_istore (lv' := [(6, .int (0 : Int32)), (5, .int l2), (4, .int l1), (3, .int l0), (0, .int l0), (1, .int l1), (2, .int l2)]) hx hb d_Three_contentsClash_34 hl (by decide) rfl (fun ls hl => ?_)
      exact t_Three_contentsClash_36  C  FU l0 l1 l2 (0 : Int32) hM _ _ _ hS (lv_sub hl [3, 2, 1, 0] rfl)
    · rw [if_pos c15_2] at hM
      exact t_Three_contentsClash_18  C  hM _ _ _ hS (lv_sub hl [0, 1, 2] rfl)
theorem c_Three_contentsClash (l : Launch) (base : Nat) (D : va_G) (cI cZ : ClassId) (h : Hp) (l0 : Int32) (l1 : Int32) (l2 : Int32) {r : Int32} (hM : f_Three_contentsClash l0 l1 l2 = some r) : Ct l base D cI cZ y_Three_contentsClash b_Three_contentsClash 7 (some .boolean) 2 46 0 0 h [.int l0, .int l1, .int l2] h (some (.int r)) :=
  ct_of (by decide) (Nat.le_of_ble_eq_true rfl) (fun p e s m below meth c ls C hS hl => t_Three_contentsClash C hM _ _ _ hS hl)
theorem d_Moves_follow_0 : decode b_Moves_follow 0 = .ok (.iload_n 1, 1) := by decide +kernel
theorem d_Moves_follow_1 : decode b_Moves_follow 1 = .ok (.invokestatic 33, 3) := by decide +kernel
theorem d_Moves_follow_4 : decode b_Moves_follow 4 = .ok (.istore_n 2, 1) := by decide +kernel
theorem d_Moves_follow_5 : decode b_Moves_follow 5 = .ok (.iload_n 2, 1) := by decide +kernel
theorem d_Moves_follow_6 : decode b_Moves_follow 6 = .ok (.istore_n 3, 1) := by decide +kernel
theorem d_Moves_follow_7 : decode b_Moves_follow 7 = .ok (.iload_n 3, 1) := by decide +kernel
theorem d_Moves_follow_8 : decode b_Moves_follow 8 = .ok (.ifCond .lt 98, 3) := by decide +kernel
theorem d_Moves_follow_11 : decode b_Moves_follow 11 = .ok (.iload_n 1, 1) := by decide +kernel
theorem d_Moves_follow_12 : decode b_Moves_follow 12 = .ok (.iload_n 3, 1) := by decide +kernel
theorem d_Moves_follow_13 : decode b_Moves_follow 13 = .ok (.invokestatic 38, 3) := by decide +kernel
theorem d_Moves_follow_16 : decode b_Moves_follow 16 = .ok (.istore 4, 2) := by decide +kernel
theorem d_Moves_follow_18 : decode b_Moves_follow 18 = .ok (.aload_n 0, 1) := by decide +kernel
theorem d_Moves_follow_19 : decode b_Moves_follow 19 = .ok (.iload 4, 2) := by decide +kernel
theorem d_Moves_follow_21 : decode b_Moves_follow 21 = .ok (.invokevirtual 26, 3) := by decide +kernel
theorem d_Moves_follow_24 : decode b_Moves_follow 24 = .ok (.istore 5, 2) := by decide +kernel
theorem d_Moves_follow_26 : decode b_Moves_follow 26 = .ok (.iload 5, 2) := by decide +kernel
theorem d_Moves_follow_28 : decode b_Moves_follow 28 = .ok (.bipush (-6), 2) := by decide +kernel
theorem d_Moves_follow_30 : decode b_Moves_follow 30 = .ok (.if_icmp .eq 70, 3) := by decide +kernel
theorem d_Moves_follow_33 : decode b_Moves_follow 33 = .ok (.aload_n 0, 1) := by decide +kernel
theorem d_Moves_follow_34 : decode b_Moves_follow 34 = .ok (.getfield 18, 3) := by decide +kernel
theorem d_Moves_follow_37 : decode b_Moves_follow 37 = .ok (.iload 5, 2) := by decide +kernel
theorem d_Moves_follow_39 : decode b_Moves_follow 39 = .ok (.baload, 1) := by decide +kernel
theorem d_Moves_follow_40 : decode b_Moves_follow 40 = .ok (.ifCond .ne 60, 3) := by decide +kernel
theorem d_Moves_follow_43 : decode b_Moves_follow 43 = .ok (.aload_n 0, 1) := by decide +kernel
theorem d_Moves_follow_44 : decode b_Moves_follow 44 = .ok (.getfield 15, 3) := by decide +kernel
theorem d_Moves_follow_47 : decode b_Moves_follow 47 = .ok (.iload 5, 2) := by decide +kernel
theorem d_Moves_follow_49 : decode b_Moves_follow 49 = .ok (.iaload, 1) := by decide +kernel
theorem d_Moves_follow_50 : decode b_Moves_follow 50 = .ok (.invokestatic 33, 3) := by decide +kernel
theorem d_Moves_follow_53 : decode b_Moves_follow 53 = .ok (.istore 6, 2) := by decide +kernel
theorem d_Moves_follow_55 : decode b_Moves_follow 55 = .ok (.iload 6, 2) := by decide +kernel
theorem d_Moves_follow_57 : decode b_Moves_follow 57 = .ok (.iload_n 2, 1) := by decide +kernel
theorem d_Moves_follow_58 : decode b_Moves_follow 58 = .ok (.iadd, 1) := by decide +kernel
theorem d_Moves_follow_59 : decode b_Moves_follow 59 = .ok (.iload_n 3, 1) := by decide +kernel
theorem d_Moves_follow_60 : decode b_Moves_follow 60 = .ok (.isub, 1) := by decide +kernel
theorem d_Moves_follow_61 : decode b_Moves_follow 61 = .ok (.iconst 3, 1) := by decide +kernel
theorem d_Moves_follow_62 : decode b_Moves_follow 62 = .ok (.if_icmp .le 7, 3) := by decide +kernel
theorem d_Moves_follow_65 : decode b_Moves_follow 65 = .ok (.iconst 1, 1) := by decide +kernel
theorem d_Moves_follow_66 : decode b_Moves_follow 66 = .ok (.goto 4, 3) := by decide +kernel
theorem d_Moves_follow_69 : decode b_Moves_follow 69 = .ok (.iconst 0, 1) := by decide +kernel
theorem d_Moves_follow_70 : decode b_Moves_follow 70 = .ok (.istore 7, 2) := by decide +kernel
theorem d_Moves_follow_72 : decode b_Moves_follow 72 = .ok (.iload 7, 2) := by decide +kernel
theorem d_Moves_follow_74 : decode b_Moves_follow 74 = .ok (.ifCond .eq 7, 3) := by decide +kernel
theorem d_Moves_follow_77 : decode b_Moves_follow 77 = .ok (.iload_n 1, 1) := by decide +kernel
theorem d_Moves_follow_78 : decode b_Moves_follow 78 = .ok (.goto 21, 3) := by decide +kernel
theorem d_Moves_follow_81 : decode b_Moves_follow 81 = .ok (.aload_n 0, 1) := by decide +kernel
theorem d_Moves_follow_82 : decode b_Moves_follow 82 = .ok (.getfield 15, 3) := by decide +kernel
theorem d_Moves_follow_85 : decode b_Moves_follow 85 = .ok (.iload 5, 2) := by decide +kernel
theorem d_Moves_follow_87 : decode b_Moves_follow 87 = .ok (.iaload, 1) := by decide +kernel
theorem d_Moves_follow_88 : decode b_Moves_follow 88 = .ok (.iload_n 1, 1) := by decide +kernel
theorem d_Moves_follow_89 : decode b_Moves_follow 89 = .ok (.iload 4, 2) := by decide +kernel
theorem d_Moves_follow_91 : decode b_Moves_follow 91 = .ok (.isub, 1) := by decide +kernel
theorem d_Moves_follow_92 : decode b_Moves_follow 92 = .ok (.iload_n 3, 1) := by decide +kernel
theorem d_Moves_follow_93 : decode b_Moves_follow 93 = .ok (.iload 6, 2) := by decide +kernel
theorem d_Moves_follow_95 : decode b_Moves_follow 95 = .ok (.invokestatic 42, 3) := by decide +kernel
theorem d_Moves_follow_98 : decode b_Moves_follow 98 = .ok (.iadd, 1) := by decide +kernel
theorem d_Moves_follow_99 : decode b_Moves_follow 99 = .ok (.ireturn, 1) := by decide +kernel
theorem d_Moves_follow_100 : decode b_Moves_follow 100 = .ok (.iinc 3 (-1), 3) := by decide +kernel
theorem d_Moves_follow_103 : decode b_Moves_follow 103 = .ok (.goto (-96), 3) := by decide +kernel
theorem d_Moves_follow_106 : decode b_Moves_follow 106 = .ok (.iload_n 1, 1) := by decide +kernel
theorem d_Moves_follow_107 : decode b_Moves_follow 107 = .ok (.ireturn, 1) := by decide +kernel
def f_Moves_follow_7 (h : Hp) (l0 : Nat) (l1 : Int32) (l2 : Int32) : Nat → Int32 → Option Int32
  | 0, _ => none
  | n + 1, l3 =>
    if l3 < (0 : Int32) then (
      some l1
    ) else (
      (f_Letters_firstOf l1 l3).bind fun t2 =>
      (f_Moves_placeOf h l0 t2).bind fun t3 =>
      if t3 = (-6 : Int32) then (
        f_Moves_follow_7 h l0 l1 l2 n (l3 + (-1 : Int32))
      ) else (
        (gR h 3 l0 2).bind fun t4 =>
        (gA h true t4 t3).bind fun t5 =>
        if t5 = (0 : Int32) then (
          (gR h 3 l0 1).bind fun t6 =>
          (gA h false t6 t3).bind fun t7 =>
          (f_Letters_lengthOf t7).bind fun t8 =>
          (
            if (if ((t8 + l2) - l3) ≤ (3 : Int32) then ((0 : Int32)) else ((1 : Int32))) = (0 : Int32) then (
              (gR h 3 l0 1).bind fun t10 =>
              (gA h false t10 t3).bind fun t11 =>
              (f_Letters_shift (l1 - t2) l3 t8).bind fun t12 =>
              some (t11 + t12)
            ) else (
              some l1
            )
          ).bind fun t9 =>
          some t9
        ) else (
          f_Moves_follow_7 h l0 l1 l2 n (l3 + (-1 : Int32))
        )
      )
    )
set_option maxHeartbeats 4000000 in
set_option maxRecDepth 100000 in
theorem t_Moves_follow_7 {h : Hp} {l0 : Nat} {l1 : Int32} {l2 : Int32} {r : Int32} (C : Cx base D cI cZ b_Moves_follow 8 "MovedFolders$Moves" "follow" (some .int) p s m args meth c)  : ∀ (n : Nat) (l3 : Int32), f_Moves_follow_7 h l0 l1 l2 n l3 = some r → ∀ (H : Heap) (locs : List Loc) (ls : Array Slot), RS base D cI cZ s H locs h → lv_has ls 8 [(0, .ref (base + l0)), (1, .int l1), (2, .int l2), (3, .int l3)] → Wg l base D cI cZ 1 24 0 0 h (some (.int r)) p e s m args below meth c H locs 0 0 (F0 m 7 ls []) := by
  have hx := C.1
  have hb := C.2.1
  intro n
  induction n with
  | zero =>
    intro l3 hM
    rw [f_Moves_follow_7] at hM
    cases hM
  | succ n ih =>
    intro l3 hM H locs ls hS hl
    rw [f_Moves_follow_7] at hM
    refine lv_iload_n hx hb d_Moves_follow_7 rfl (lv_at hl 3 rfl) ?_
    refine lv_if_lt (tgt := 106) hx hb d_Moves_follow_8 (by decide) (fun c8_1 => ?_) (fun c8_1 => ?_)
    · rw [if_pos c8_1] at hM
      refine lv_iload_n hx hb d_Moves_follow_106 rfl (lv_at hl 1 rfl) ?_
      obtain rfl := Option.some.inj hM
      exact r_iret C hS d_Moves_follow_107
    · rw [if_neg c8_1] at hM
      refine lv_iload_n hx hb d_Moves_follow_11 rfl (lv_at hl 1 rfl) ?_
      refine lv_iload_n hx hb d_Moves_follow_12 rfl (lv_at hl 3 rfl) ?_
      obtain ⟨t2, et2, hM⟩ := bS hM
      refine r_callSi (x := t2) C hS cs_Moves_38 (c_Letters_firstOf l base D cI cZ h l1 l3 et2) (rest := []) rfl hl.1 rfl (Nat.le_of_ble_eq_true rfl) ⟨(Nat.le_of_ble_eq_true rfl), (Nat.le_of_ble_eq_true rfl)⟩ ⟨(Nat.le_of_ble_eq_true rfl), (Nat.le_of_ble_eq_true rfl)⟩ d_Moves_follow_13 (fun H locs hS => ?_)
      refine lv_istore (lv' := [(4, .int t2), (0, .ref (base + l0)), (1, .int l1), (2, .int l2), (3, .int l3)]) hx hb d_Moves_follow_16 hl (by decide) rfl (fun ls hl => ?_)
      refine lv_aload_n hx hb d_Moves_follow_18 rfl (lv_at hl 1 rfl) ?_
      refine lv_iload hx hb d_Moves_follow_19 (lv_at hl 0 rfl) ?_
      obtain ⟨t3, et3, hM⟩ := bS hM
      refine r_callVi (x := t3) C hS cv_Moves_26 (c_Moves_placeOf l base D cI cZ h l0 t2 et3) (o_Moves_placeOf et3) (rest := []) rfl hl.1 rfl (Nat.le_of_ble_eq_true rfl) ⟨(Nat.le_of_ble_eq_true rfl), (Nat.le_of_ble_eq_true rfl)⟩ ⟨(Nat.le_of_ble_eq_true rfl), (Nat.le_of_ble_eq_true rfl)⟩ d_Moves_follow_21 (fun H locs hS => ?_)
      refine lv_istore (lv' := [(5, .int t3), (4, .int t2), (0, .ref (base + l0)), (1, .int l1), (2, .int l2), (3, .int l3)]) hx hb d_Moves_follow_24 hl (by decide) rfl (fun ls hl => ?_)
      refine lv_iload hx hb d_Moves_follow_26 (lv_at hl 0 rfl) ?_
      refine lv_bipush (v := (-6 : Int32)) hx hb d_Moves_follow_28 (by decide) ?_
      refine lv_icmp_eq (tgt := 100) hx hb d_Moves_follow_30 (by decide) (fun c30_2 => ?_) (fun c30_2 => ?_)
      · rw [if_pos c30_2] at hM
        refine lv_iinc (v := (l3 + (-1 : Int32))) (lv' := [(3, .int (l3 + (-1 : Int32))), (5, .int t3), (4, .int t2), (0, .ref (base + l0)), (1, .int l1), (2, .int l2)]) hx hb d_Moves_follow_100 hl (k := 5) rfl (by rw [oi_m1]) (by decide) rfl (fun ls hl => ?_)
        refine lv_goto (tgt := 7) hx hb d_Moves_follow_103 (by decide) ?_
        exact ih (l3 + (-1 : Int32)) hM _ _ _ hS (lv_sub hl [3, 4, 5, 0] rfl)
      · rw [if_neg c30_2] at hM
        refine lv_aload_n hx hb d_Moves_follow_33 rfl (lv_at hl 2 rfl) ?_
        obtain ⟨t4, et4, hM⟩ := bS hM
        refine r_getR C hS fl_Moves_18 et4 d_Moves_follow_34 ?_
        refine lv_iload hx hb d_Moves_follow_37 (lv_at hl 0 rfl) ?_
        obtain ⟨t5, et5, hM⟩ := bS hM
        refine r_zald C hS et5 d_Moves_follow_39 ?_
        refine lv_if_ne (tgt := 100) hx hb d_Moves_follow_40 (by decide) (fun c40_3 => ?_) (fun c40_3 => ?_)
        · rw [if_neg c40_3] at hM
          refine lv_iinc (v := (l3 + (-1 : Int32))) (lv' := [(3, .int (l3 + (-1 : Int32))), (5, .int t3), (4, .int t2), (0, .ref (base + l0)), (1, .int l1), (2, .int l2)]) hx hb d_Moves_follow_100 hl (k := 5) rfl (by rw [oi_m1]) (by decide) rfl (fun ls hl => ?_)
          refine lv_goto (tgt := 7) hx hb d_Moves_follow_103 (by decide) ?_
          exact ih (l3 + (-1 : Int32)) hM _ _ _ hS (lv_sub hl [3, 4, 5, 0] rfl)
        · rw [if_pos c40_3] at hM
          refine lv_aload_n hx hb d_Moves_follow_43 rfl (lv_at hl 2 rfl) ?_
          obtain ⟨t6, et6, hM⟩ := bS hM
          refine r_getR C hS fl_Moves_15 et6 d_Moves_follow_44 ?_
          refine lv_iload hx hb d_Moves_follow_47 (lv_at hl 0 rfl) ?_
          obtain ⟨t7, et7, hM⟩ := bS hM
          refine r_iald C hS et7 d_Moves_follow_49 ?_
          obtain ⟨t8, et8, hM⟩ := bS hM
          refine r_callSi (x := t8) C hS cs_Moves_33 (c_Letters_lengthOf l base D cI cZ h t7 et8) (rest := []) rfl hl.1 rfl (Nat.le_of_ble_eq_true rfl) ⟨(Nat.le_of_ble_eq_true rfl), (Nat.le_of_ble_eq_true rfl)⟩ ⟨(Nat.le_of_ble_eq_true rfl), (Nat.le_of_ble_eq_true rfl)⟩ d_Moves_follow_50 (fun H locs hS => ?_)
          refine lv_istore (lv' := [(6, .int t8), (5, .int t3), (4, .int t2), (0, .ref (base + l0)), (1, .int l1), (2, .int l2), (3, .int l3)]) hx hb d_Moves_follow_53 hl (by decide) rfl (fun ls hl => ?_)
          refine lv_iload hx hb d_Moves_follow_55 (lv_at hl 0 rfl) ?_
          refine lv_iload_n hx hb d_Moves_follow_57 rfl (lv_at hl 5 rfl) ?_
          refine lv_iadd hx hb d_Moves_follow_58 ?_
          refine lv_iload_n hx hb d_Moves_follow_59 rfl (lv_at hl 6 rfl) ?_
          refine lv_isub hx hb d_Moves_follow_60 ?_
          refine lv_iconst (v := (3 : Int32)) hx hb d_Moves_follow_61 (by decide) ?_
          have kJ70_4 : ∀ (H : Heap) (locs : List Loc) (ls : Array Slot), RS base D cI cZ s H locs h → lv_has ls 8 [(0, .ref (base + l0)), (1, .int l1), (3, .int l3), (4, .int t2), (5, .int t3), (6, .int t8)] → Wg l base D cI cZ 1 24 0 0 h (some (.int r)) p e s m args below meth c H locs 0 0 (F0 m 70 ls [.int (if ((t8 + l2) - l3) ≤ (3 : Int32) then ((0 : Int32)) else ((1 : Int32)))]) := by
            intro H locs ls hS hl
            refine lv_istore (lv' := [(7, .int (if ((t8 + l2) - l3) ≤ (3 : Int32) then ((0 : Int32)) else ((1 : Int32)))), (0, .ref (base + l0)), (1, .int l1), (3, .int l3), (4, .int t2), (5, .int t3), (6, .int t8)]) hx hb d_Moves_follow_70 hl (by decide) rfl (fun ls hl => ?_)
            refine lv_iload hx hb d_Moves_follow_72 (lv_at hl 0 rfl) ?_
            obtain ⟨t9, et9, hM⟩ := bS hM
            have kJ99_6 : ∀ (H : Heap) (locs : List Loc) (ls : Array Slot), RS base D cI cZ s H locs h → lv_has ls 8 [] → Wg l base D cI cZ 1 24 0 0 h (some (.int r)) p e s m args below meth c H locs 0 0 (F0 m 99 ls [.int t9]) := by
              intro H locs ls hS hl
              obtain rfl := Option.some.inj hM
              exact r_iret C hS d_Moves_follow_99
            refine lv_if_eq (tgt := 81) hx hb d_Moves_follow_74 (by decide) (fun c74_7 => ?_) (fun c74_7 => ?_)
            · rw [if_pos c74_7] at et9
              refine lv_aload_n hx hb d_Moves_follow_81 rfl (lv_at hl 1 rfl) ?_
              obtain ⟨t10, et10, et9⟩ := bS et9
              refine r_getR C hS fl_Moves_15 et10 d_Moves_follow_82 ?_
              refine lv_iload hx hb d_Moves_follow_85 (lv_at hl 5 rfl) ?_
              obtain ⟨t11, et11, et9⟩ := bS et9
              refine r_iald C hS et11 d_Moves_follow_87 ?_
              refine lv_iload_n hx hb d_Moves_follow_88 rfl (lv_at hl 2 rfl) ?_
              refine lv_iload hx hb d_Moves_follow_89 (lv_at hl 4 rfl) ?_
              refine lv_isub hx hb d_Moves_follow_91 ?_
              refine lv_iload_n hx hb d_Moves_follow_92 rfl (lv_at hl 3 rfl) ?_
              refine lv_iload hx hb d_Moves_follow_93 (lv_at hl 6 rfl) ?_
              obtain ⟨t12, et12, et9⟩ := bS et9
              refine r_callSi (x := t12) C hS cs_Moves_42 (c_Letters_shift l base D cI cZ h (l1 - t2) l3 t8 et12) (rest := [.int t11]) rfl hl.1 rfl (Nat.le_of_ble_eq_true rfl) ⟨(Nat.le_of_ble_eq_true rfl), (Nat.le_of_ble_eq_true rfl)⟩ ⟨(Nat.le_of_ble_eq_true rfl), (Nat.le_of_ble_eq_true rfl)⟩ d_Moves_follow_95 (fun H locs hS => ?_)
              refine lv_iadd hx hb d_Moves_follow_98 ?_
              obtain rfl := Option.some.inj et9
              exact kJ99_6 _ _ _ hS (lv_sub hl [] rfl)
            · rw [if_neg c74_7] at et9
              refine lv_iload_n hx hb d_Moves_follow_77 rfl (lv_at hl 2 rfl) ?_
              refine lv_goto (tgt := 99) hx hb d_Moves_follow_78 (by decide) ?_
              obtain rfl := Option.some.inj et9
              exact kJ99_6 _ _ _ hS (lv_sub hl [] rfl)
          refine lv_icmp_le (tgt := 69) hx hb d_Moves_follow_62 (by decide) (fun c62_5 => ?_) (fun c62_5 => ?_)
          · rw [if_pos c62_5] at kJ70_4
            refine lv_iconst (v := (0 : Int32)) hx hb d_Moves_follow_69 (by decide) ?_
            exact kJ70_4 _ _ _ hS (lv_sub hl [3, 4, 6, 2, 1, 0] rfl)
          · rw [if_neg c62_5] at kJ70_4
            refine lv_iconst (v := (1 : Int32)) hx hb d_Moves_follow_65 (by decide) ?_
            refine lv_goto (tgt := 70) hx hb d_Moves_follow_66 (by decide) ?_
            exact kJ70_4 _ _ _ hS (lv_sub hl [3, 4, 6, 2, 1, 0] rfl)
def f_Moves_follow (h : Hp) (l0 : Nat) (l1 : Int32) : Option Int32 :=
  ck h 3 l0 (
    (f_Letters_lengthOf l1).bind fun t1 =>
    f_Moves_follow_7 h l0 l1 t1 FU t1
  )
theorem o_Moves_follow {h : Hp} {l0 : Nat} {l1 : Int32} {r : Int32} (hM : f_Moves_follow h l0 l1 = some r) : isO h 3 l0 = true := by
  unfold f_Moves_follow at hM
  exact (ck_some hM).1
set_option maxHeartbeats 4000000 in
set_option maxRecDepth 100000 in
theorem t_Moves_follow {h : Hp} {l0 : Nat} {l1 : Int32} {r : Int32} (C : Cx base D cI cZ b_Moves_follow 8 "MovedFolders$Moves" "follow" (some .int) p s m args meth c) (hM : f_Moves_follow h l0 l1 = some r) (H : Heap) (locs : List Loc) (ls : Array Slot) (hS : RS base D cI cZ s H locs h) (hl : lv_has ls 8 [(0, .ref (base + l0)), (1, .int l1)]) : Wg l base D cI cZ 1 24 0 0 h (some (.int r)) p e s m args below meth c H locs 0 0 (F0 m 0 ls []) := by
  have hx := C.1
  have hb := C.2.1
  unfold f_Moves_follow at hM
  replace hM := (ck_some hM).2
  refine lv_iload_n hx hb d_Moves_follow_0 rfl (lv_at hl 1 rfl) ?_
  obtain ⟨t1, et1, hM⟩ := bS hM
  refine r_callSi (x := t1) C hS cs_Moves_33 (c_Letters_lengthOf l base D cI cZ h l1 et1) (rest := []) rfl hl.1 rfl (Nat.le_of_ble_eq_true rfl) ⟨(Nat.le_of_ble_eq_true rfl), (Nat.le_of_ble_eq_true rfl)⟩ ⟨(Nat.le_of_ble_eq_true rfl), (Nat.le_of_ble_eq_true rfl)⟩ d_Moves_follow_1 (fun H locs hS => ?_)
  refine lv_istore_n (lv' := [(2, .int t1), (0, .ref (base + l0)), (1, .int l1)]) hx hb d_Moves_follow_4 rfl hl (by decide) rfl (fun ls hl => ?_)
  refine lv_iload_n hx hb d_Moves_follow_5 rfl (lv_at hl 0 rfl) ?_
  refine lv_istore_n (lv' := [(3, .int t1), (2, .int t1), (0, .ref (base + l0)), (1, .int l1)]) hx hb d_Moves_follow_6 rfl hl (by decide) rfl (fun ls hl => ?_)
  exact t_Moves_follow_7  C  FU t1 hM _ _ _ hS (lv_sub hl [2, 3, 1, 0] rfl)
theorem c_Moves_follow (l : Launch) (base : Nat) (D : va_G) (cI cZ : ClassId) (h : Hp) (l0 : Nat) (l1 : Int32) {r : Int32} (hM : f_Moves_follow h l0 l1 = some r) : Ct l base D cI cZ y_Moves_follow b_Moves_follow 8 (some .int) 1 24 0 0 h [.ref (base + l0), .int l1] h (some (.int r)) :=
  ct_of (by decide) (Nat.le_of_ble_eq_true rfl) (fun p e s m below meth c ls C hS hl => t_Moves_follow C hM _ _ _ hS hl)
theorem d_Three_join_0 : decode b_Three_join 0 = .ok (.iload_n 1, 1) := by decide +kernel
theorem d_Three_join_1 : decode b_Three_join 1 = .ok (.iload_n 2, 1) := by decide +kernel
theorem d_Three_join_2 : decode b_Three_join 2 = .ok (.if_icmp .eq 8, 3) := by decide +kernel
theorem d_Three_join_5 : decode b_Three_join 5 = .ok (.iload_n 2, 1) := by decide +kernel
theorem d_Three_join_6 : decode b_Three_join 6 = .ok (.iload_n 0, 1) := by decide +kernel
theorem d_Three_join_7 : decode b_Three_join 7 = .ok (.if_icmp .ne 5, 3) := by decide +kernel
theorem d_Three_join_10 : decode b_Three_join 10 = .ok (.iload_n 1, 1) := by decide +kernel
theorem d_Three_join_11 : decode b_Three_join 11 = .ok (.ireturn, 1) := by decide +kernel
theorem d_Three_join_12 : decode b_Three_join 12 = .ok (.iload_n 1, 1) := by decide +kernel
theorem d_Three_join_13 : decode b_Three_join 13 = .ok (.iload_n 0, 1) := by decide +kernel
theorem d_Three_join_14 : decode b_Three_join 14 = .ok (.if_icmp .ne 7, 3) := by decide +kernel
theorem d_Three_join_17 : decode b_Three_join 17 = .ok (.iload_n 2, 1) := by decide +kernel
theorem d_Three_join_18 : decode b_Three_join 18 = .ok (.goto 8, 3) := by decide +kernel
theorem d_Three_join_21 : decode b_Three_join 21 = .ok (.iload_n 1, 1) := by decide +kernel
theorem d_Three_join_22 : decode b_Three_join 22 = .ok (.iload_n 2, 1) := by decide +kernel
theorem d_Three_join_23 : decode b_Three_join 23 = .ok (.invokestatic 9, 3) := by decide +kernel
theorem d_Three_join_26 : decode b_Three_join 26 = .ok (.ireturn, 1) := by decide +kernel
def f_Three_join (l0 : Int32) (l1 : Int32) (l2 : Int32) : Option Int32 :=
  if l1 = l2 then (
    some l1
  ) else (
    if l2 = l0 then (
      some l1
    ) else (
      some (if l1 = l0 then (l2) else ((mnI l1 l2)))
    )
  )
set_option maxHeartbeats 4000000 in
set_option maxRecDepth 100000 in
theorem t_Three_join {h : Hp} {l0 : Int32} {l1 : Int32} {l2 : Int32} {r : Int32} (C : Cx base D cI cZ b_Three_join 3 "MovedFolders$Three" "join" (some .int) p s m args meth c) (hM : f_Three_join l0 l1 l2 = some r) (H : Heap) (locs : List Loc) (ls : Array Slot) (hS : RS base D cI cZ s H locs h) (hl : lv_has ls 3 [(0, .int l0), (1, .int l1), (2, .int l2)]) : Wg l base D cI cZ 1 21 0 0 h (some (.int r)) p e s m args below meth c H locs 0 0 (F0 m 0 ls []) := by
  have hx := C.1
  have hb := C.2.1
  unfold f_Three_join at hM
  refine lv_iload_n hx hb d_Three_join_0 rfl (lv_at hl 1 rfl) ?_
  refine lv_iload_n hx hb d_Three_join_1 rfl (lv_at hl 2 rfl) ?_
  refine lv_icmp_eq (tgt := 10) hx hb d_Three_join_2 (by decide) (fun c2_1 => ?_) (fun c2_1 => ?_)
  · rw [if_pos c2_1] at hM
    refine lv_iload_n hx hb d_Three_join_10 rfl (lv_at hl 1 rfl) ?_
    obtain rfl := Option.some.inj hM
    exact r_iret C hS d_Three_join_11
  · rw [if_neg c2_1] at hM
    refine lv_iload_n hx hb d_Three_join_5 rfl (lv_at hl 2 rfl) ?_
    refine lv_iload_n hx hb d_Three_join_6 rfl (lv_at hl 0 rfl) ?_
    refine lv_icmp_ne (tgt := 12) hx hb d_Three_join_7 (by decide) (fun c7_2 => ?_) (fun c7_2 => ?_)
    · rw [if_neg c7_2] at hM
      refine lv_iload_n hx hb d_Three_join_12 rfl (lv_at hl 1 rfl) ?_
      refine lv_iload_n hx hb d_Three_join_13 rfl (lv_at hl 0 rfl) ?_
      have kJ26_3 : ∀ (H : Heap) (locs : List Loc) (ls : Array Slot), RS base D cI cZ s H locs h → lv_has ls 3 [] → Wg l base D cI cZ 1 21 0 0 h (some (.int r)) p e s m args below meth c H locs 0 0 (F0 m 26 ls [.int (if l1 = l0 then (l2) else ((mnI l1 l2)))]) := by
        intro H locs ls hS hl
        obtain rfl := Option.some.inj hM
        exact r_iret C hS d_Three_join_26
      refine lv_icmp_ne (tgt := 21) hx hb d_Three_join_14 (by decide) (fun c14_4 => ?_) (fun c14_4 => ?_)
      · rw [if_neg c14_4] at kJ26_3
        refine lv_iload_n hx hb d_Three_join_21 rfl (lv_at hl 1 rfl) ?_
        refine lv_iload_n hx hb d_Three_join_22 rfl (lv_at hl 2 rfl) ?_
        refine r_min C mt_Three_9 hl.1 ⟨(Nat.le_of_ble_eq_true rfl), (Nat.le_of_ble_eq_true rfl)⟩ ⟨(Nat.le_of_ble_eq_true rfl), (Nat.le_of_ble_eq_true rfl)⟩ d_Three_join_23 ?_
        exact kJ26_3 _ _ _ hS (lv_sub hl [] rfl)
      · rw [if_pos c14_4] at kJ26_3
        refine lv_iload_n hx hb d_Three_join_17 rfl (lv_at hl 2 rfl) ?_
        refine lv_goto (tgt := 26) hx hb d_Three_join_18 (by decide) ?_
        exact kJ26_3 _ _ _ hS (lv_sub hl [] rfl)
    · rw [if_pos c7_2] at hM
      refine lv_iload_n hx hb d_Three_join_10 rfl (lv_at hl 1 rfl) ?_
      obtain rfl := Option.some.inj hM
      exact r_iret C hS d_Three_join_11
theorem c_Three_join (l : Launch) (base : Nat) (D : va_G) (cI cZ : ClassId) (h : Hp) (l0 : Int32) (l1 : Int32) (l2 : Int32) {r : Int32} (hM : f_Three_join l0 l1 l2 = some r) : Ct l base D cI cZ y_Three_join b_Three_join 3 (some .int) 1 21 0 0 h [.int l0, .int l1, .int l2] h (some (.int r)) :=
  ct_of (by decide) (Nat.le_of_ble_eq_true rfl) (fun p e s m below meth c ls C hS hl => t_Three_join C hM _ _ _ hS hl)
theorem d_Merge_joinFolders_0 : decode b_Merge_joinFolders 0 = .ok (.iload_n 0, 1) := by decide +kernel
theorem d_Merge_joinFolders_1 : decode b_Merge_joinFolders 1 = .ok (.invokestatic 137, 3) := by decide +kernel
theorem d_Merge_joinFolders_4 : decode b_Merge_joinFolders 4 = .ok (.istore 5, 2) := by decide +kernel
theorem d_Merge_joinFolders_6 : decode b_Merge_joinFolders 6 = .ok (.iload_n 1, 1) := by decide +kernel
theorem d_Merge_joinFolders_7 : decode b_Merge_joinFolders 7 = .ok (.invokestatic 137, 3) := by decide +kernel
theorem d_Merge_joinFolders_10 : decode b_Merge_joinFolders 10 = .ok (.istore 6, 2) := by decide +kernel
theorem d_Merge_joinFolders_12 : decode b_Merge_joinFolders 12 = .ok (.iload_n 2, 1) := by decide +kernel
theorem d_Merge_joinFolders_13 : decode b_Merge_joinFolders 13 = .ok (.invokestatic 137, 3) := by decide +kernel
theorem d_Merge_joinFolders_16 : decode b_Merge_joinFolders 16 = .ok (.istore 7, 2) := by decide +kernel
theorem d_Merge_joinFolders_18 : decode b_Merge_joinFolders 18 = .ok (.iload 6, 2) := by decide +kernel
theorem d_Merge_joinFolders_20 : decode b_Merge_joinFolders 20 = .ok (.iload 7, 2) := by decide +kernel
theorem d_Merge_joinFolders_22 : decode b_Merge_joinFolders 22 = .ok (.if_icmp .eq 17, 3) := by decide +kernel
theorem d_Merge_joinFolders_25 : decode b_Merge_joinFolders 25 = .ok (.iload 6, 2) := by decide +kernel
theorem d_Merge_joinFolders_27 : decode b_Merge_joinFolders 27 = .ok (.iload 5, 2) := by decide +kernel
theorem d_Merge_joinFolders_29 : decode b_Merge_joinFolders 29 = .ok (.if_icmp .ne 10, 3) := by decide +kernel
theorem d_Merge_joinFolders_32 : decode b_Merge_joinFolders 32 = .ok (.aload_n 3, 1) := by decide +kernel
theorem d_Merge_joinFolders_33 : decode b_Merge_joinFolders 33 = .ok (.iload 7, 2) := by decide +kernel
theorem d_Merge_joinFolders_35 : decode b_Merge_joinFolders 35 = .ok (.invokevirtual 143, 3) := by decide +kernel
theorem d_Merge_joinFolders_38 : decode b_Merge_joinFolders 38 = .ok (.ireturn, 1) := by decide +kernel
theorem d_Merge_joinFolders_39 : decode b_Merge_joinFolders 39 = .ok (.iload 6, 2) := by decide +kernel
theorem d_Merge_joinFolders_41 : decode b_Merge_joinFolders 41 = .ok (.iload 7, 2) := by decide +kernel
theorem d_Merge_joinFolders_43 : decode b_Merge_joinFolders 43 = .ok (.if_icmp .eq 18, 3) := by decide +kernel
theorem d_Merge_joinFolders_46 : decode b_Merge_joinFolders 46 = .ok (.iload 7, 2) := by decide +kernel
theorem d_Merge_joinFolders_48 : decode b_Merge_joinFolders 48 = .ok (.iload 5, 2) := by decide +kernel
theorem d_Merge_joinFolders_50 : decode b_Merge_joinFolders 50 = .ok (.if_icmp .ne 11, 3) := by decide +kernel
theorem d_Merge_joinFolders_53 : decode b_Merge_joinFolders 53 = .ok (.aload 4, 2) := by decide +kernel
theorem d_Merge_joinFolders_55 : decode b_Merge_joinFolders 55 = .ok (.iload 6, 2) := by decide +kernel
theorem d_Merge_joinFolders_57 : decode b_Merge_joinFolders 57 = .ok (.invokevirtual 143, 3) := by decide +kernel
theorem d_Merge_joinFolders_60 : decode b_Merge_joinFolders 60 = .ok (.ireturn, 1) := by decide +kernel
theorem d_Merge_joinFolders_61 : decode b_Merge_joinFolders 61 = .ok (.iload 5, 2) := by decide +kernel
theorem d_Merge_joinFolders_63 : decode b_Merge_joinFolders 63 = .ok (.iload 6, 2) := by decide +kernel
theorem d_Merge_joinFolders_65 : decode b_Merge_joinFolders 65 = .ok (.iload 7, 2) := by decide +kernel
theorem d_Merge_joinFolders_67 : decode b_Merge_joinFolders 67 = .ok (.invokestatic 126, 3) := by decide +kernel
theorem d_Merge_joinFolders_70 : decode b_Merge_joinFolders 70 = .ok (.ireturn, 1) := by decide +kernel
def f_Merge_joinFolders_61 (h : Hp) (l5 : Int32) (l6 : Int32) (l7 : Int32) : Option Int32 :=
  (f_Three_join l5 l6 l7).bind fun t4 =>
  some t4
set_option maxHeartbeats 4000000 in
set_option maxRecDepth 100000 in
theorem t_Merge_joinFolders_61 {h : Hp} {l5 : Int32} {l6 : Int32} {l7 : Int32} {r : Int32} (C : Cx base D cI cZ b_Merge_joinFolders 8 "MovedFolders$Merge" "joinFolders" (some .int) p s m args meth c)  (hM : f_Merge_joinFolders_61 h l5 l6 l7 = some r) (H : Heap) (locs : List Loc) (ls : Array Slot) (hS : RS base D cI cZ s H locs h) (hl : lv_has ls 8 [(5, .int l5), (6, .int l6), (7, .int l7)]) : Wg l base D cI cZ 2 51 0 0 h (some (.int r)) p e s m args below meth c H locs 0 0 (F0 m 61 ls []) := by
  have hx := C.1
  have hb := C.2.1
  unfold f_Merge_joinFolders_61 at hM
  refine lv_iload hx hb d_Merge_joinFolders_61 (lv_at hl 0 rfl) ?_
  refine lv_iload hx hb d_Merge_joinFolders_63 (lv_at hl 1 rfl) ?_
  refine lv_iload hx hb d_Merge_joinFolders_65 (lv_at hl 2 rfl) ?_
  obtain ⟨t4, et4, hM⟩ := bS hM
  refine r_callSi (x := t4) C hS cs_Merge_126 (c_Three_join l base D cI cZ h l5 l6 l7 et4) (rest := []) rfl hl.1 rfl (Nat.le_of_ble_eq_true rfl) ⟨(Nat.le_of_ble_eq_true rfl), (Nat.le_of_ble_eq_true rfl)⟩ ⟨(Nat.le_of_ble_eq_true rfl), (Nat.le_of_ble_eq_true rfl)⟩ d_Merge_joinFolders_67 (fun H locs hS => ?_)
  obtain rfl := Option.some.inj hM
  exact r_iret C hS d_Merge_joinFolders_70
def f_Merge_joinFolders_39 (h : Hp) (l4 : Nat) (l5 : Int32) (l6 : Int32) (l7 : Int32) : Option Int32 :=
  if l6 = l7 then (
    f_Merge_joinFolders_61 h l5 l6 l7
  ) else (
    if l7 = l5 then (
      (f_Moves_follow h l4 l6).bind fun t5 =>
      some t5
    ) else (
      f_Merge_joinFolders_61 h l5 l6 l7
    )
  )
set_option maxHeartbeats 4000000 in
set_option maxRecDepth 100000 in
theorem t_Merge_joinFolders_39 {h : Hp} {l4 : Nat} {l5 : Int32} {l6 : Int32} {l7 : Int32} {r : Int32} (C : Cx base D cI cZ b_Merge_joinFolders 8 "MovedFolders$Merge" "joinFolders" (some .int) p s m args meth c)  (hM : f_Merge_joinFolders_39 h l4 l5 l6 l7 = some r) (H : Heap) (locs : List Loc) (ls : Array Slot) (hS : RS base D cI cZ s H locs h) (hl : lv_has ls 8 [(4, .ref (base + l4)), (5, .int l5), (6, .int l6), (7, .int l7)]) : Wg l base D cI cZ 2 51 0 0 h (some (.int r)) p e s m args below meth c H locs 0 0 (F0 m 39 ls []) := by
  have hx := C.1
  have hb := C.2.1
  unfold f_Merge_joinFolders_39 at hM
  refine lv_iload hx hb d_Merge_joinFolders_39 (lv_at hl 2 rfl) ?_
  refine lv_iload hx hb d_Merge_joinFolders_41 (lv_at hl 3 rfl) ?_
  refine lv_icmp_eq (tgt := 61) hx hb d_Merge_joinFolders_43 (by decide) (fun c43_2 => ?_) (fun c43_2 => ?_)
  · rw [if_pos c43_2] at hM
    exact t_Merge_joinFolders_61  C  hM _ _ _ hS (lv_sub hl [1, 2, 3] rfl)
  · rw [if_neg c43_2] at hM
    refine lv_iload hx hb d_Merge_joinFolders_46 (lv_at hl 3 rfl) ?_
    refine lv_iload hx hb d_Merge_joinFolders_48 (lv_at hl 1 rfl) ?_
    refine lv_icmp_ne (tgt := 61) hx hb d_Merge_joinFolders_50 (by decide) (fun c50_3 => ?_) (fun c50_3 => ?_)
    · rw [if_neg c50_3] at hM
      exact t_Merge_joinFolders_61  C  hM _ _ _ hS (lv_sub hl [1, 2, 3] rfl)
    · rw [if_pos c50_3] at hM
      refine lv_aload hx hb d_Merge_joinFolders_53 (lv_at hl 0 rfl) ?_
      refine lv_iload hx hb d_Merge_joinFolders_55 (lv_at hl 2 rfl) ?_
      obtain ⟨t5, et5, hM⟩ := bS hM
      refine r_callVi (x := t5) C hS cv_Merge_143 (c_Moves_follow l base D cI cZ h l4 l6 et5) (o_Moves_follow et5) (rest := []) rfl hl.1 rfl (Nat.le_of_ble_eq_true rfl) ⟨(Nat.le_of_ble_eq_true rfl), (Nat.le_of_ble_eq_true rfl)⟩ ⟨(Nat.le_of_ble_eq_true rfl), (Nat.le_of_ble_eq_true rfl)⟩ d_Merge_joinFolders_57 (fun H locs hS => ?_)
      obtain rfl := Option.some.inj hM
      exact r_iret C hS d_Merge_joinFolders_60
def f_Merge_joinFolders (h : Hp) (l0 : Int32) (l1 : Int32) (l2 : Int32) (l3 : Nat) (l4 : Nat) : Option Int32 :=
  (f_Letters_folderOf l0).bind fun t1 =>
  (f_Letters_folderOf l1).bind fun t2 =>
  (f_Letters_folderOf l2).bind fun t3 =>
  if t2 = t3 then (
    f_Merge_joinFolders_39 h l4 t1 t2 t3
  ) else (
    if t2 = t1 then (
      (f_Moves_follow h l3 t3).bind fun t6 =>
      some t6
    ) else (
      f_Merge_joinFolders_39 h l4 t1 t2 t3
    )
  )
set_option maxHeartbeats 4000000 in
set_option maxRecDepth 100000 in
theorem t_Merge_joinFolders {h : Hp} {l0 : Int32} {l1 : Int32} {l2 : Int32} {l3 : Nat} {l4 : Nat} {r : Int32} (C : Cx base D cI cZ b_Merge_joinFolders 8 "MovedFolders$Merge" "joinFolders" (some .int) p s m args meth c) (hM : f_Merge_joinFolders h l0 l1 l2 l3 l4 = some r) (H : Heap) (locs : List Loc) (ls : Array Slot) (hS : RS base D cI cZ s H locs h) (hl : lv_has ls 8 [(0, .int l0), (1, .int l1), (2, .int l2), (3, .ref (base + l3)), (4, .ref (base + l4))]) : Wg l base D cI cZ 2 51 0 0 h (some (.int r)) p e s m args below meth c H locs 0 0 (F0 m 0 ls []) := by
  have hx := C.1
  have hb := C.2.1
  unfold f_Merge_joinFolders at hM
  refine lv_iload_n hx hb d_Merge_joinFolders_0 rfl (lv_at hl 0 rfl) ?_
  obtain ⟨t1, et1, hM⟩ := bS hM
  refine r_callSi (x := t1) C hS cs_Merge_137 (c_Letters_folderOf l base D cI cZ h l0 et1) (rest := []) rfl hl.1 rfl (Nat.le_of_ble_eq_true rfl) ⟨(Nat.le_of_ble_eq_true rfl), (Nat.le_of_ble_eq_true rfl)⟩ ⟨(Nat.le_of_ble_eq_true rfl), (Nat.le_of_ble_eq_true rfl)⟩ d_Merge_joinFolders_1 (fun H locs hS => ?_)
  refine lv_istore (lv' := [(5, .int t1), (0, .int l0), (1, .int l1), (2, .int l2), (3, .ref (base + l3)), (4, .ref (base + l4))]) hx hb d_Merge_joinFolders_4 hl (by decide) rfl (fun ls hl => ?_)
  refine lv_iload_n hx hb d_Merge_joinFolders_6 rfl (lv_at hl 2 rfl) ?_
  obtain ⟨t2, et2, hM⟩ := bS hM
  refine r_callSi (x := t2) C hS cs_Merge_137 (c_Letters_folderOf l base D cI cZ h l1 et2) (rest := []) rfl hl.1 rfl (Nat.le_of_ble_eq_true rfl) ⟨(Nat.le_of_ble_eq_true rfl), (Nat.le_of_ble_eq_true rfl)⟩ ⟨(Nat.le_of_ble_eq_true rfl), (Nat.le_of_ble_eq_true rfl)⟩ d_Merge_joinFolders_7 (fun H locs hS => ?_)
  refine lv_istore (lv' := [(6, .int t2), (5, .int t1), (0, .int l0), (1, .int l1), (2, .int l2), (3, .ref (base + l3)), (4, .ref (base + l4))]) hx hb d_Merge_joinFolders_10 hl (by decide) rfl (fun ls hl => ?_)
  refine lv_iload_n hx hb d_Merge_joinFolders_12 rfl (lv_at hl 4 rfl) ?_
  obtain ⟨t3, et3, hM⟩ := bS hM
  refine r_callSi (x := t3) C hS cs_Merge_137 (c_Letters_folderOf l base D cI cZ h l2 et3) (rest := []) rfl hl.1 rfl (Nat.le_of_ble_eq_true rfl) ⟨(Nat.le_of_ble_eq_true rfl), (Nat.le_of_ble_eq_true rfl)⟩ ⟨(Nat.le_of_ble_eq_true rfl), (Nat.le_of_ble_eq_true rfl)⟩ d_Merge_joinFolders_13 (fun H locs hS => ?_)
  refine lv_istore (lv' := [(7, .int t3), (6, .int t2), (5, .int t1), (0, .int l0), (1, .int l1), (2, .int l2), (3, .ref (base + l3)), (4, .ref (base + l4))]) hx hb d_Merge_joinFolders_16 hl (by decide) rfl (fun ls hl => ?_)
  refine lv_iload hx hb d_Merge_joinFolders_18 (lv_at hl 1 rfl) ?_
  refine lv_iload hx hb d_Merge_joinFolders_20 (lv_at hl 0 rfl) ?_
  refine lv_icmp_eq (tgt := 39) hx hb d_Merge_joinFolders_22 (by decide) (fun c22_1 => ?_) (fun c22_1 => ?_)
  · rw [if_pos c22_1] at hM
    exact t_Merge_joinFolders_39  C  hM _ _ _ hS (lv_sub hl [7, 2, 1, 0] rfl)
  · rw [if_neg c22_1] at hM
    refine lv_iload hx hb d_Merge_joinFolders_25 (lv_at hl 1 rfl) ?_
    refine lv_iload hx hb d_Merge_joinFolders_27 (lv_at hl 2 rfl) ?_
    refine lv_icmp_ne (tgt := 39) hx hb d_Merge_joinFolders_29 (by decide) (fun c29_4 => ?_) (fun c29_4 => ?_)
    · rw [if_neg c29_4] at hM
      exact t_Merge_joinFolders_39  C  hM _ _ _ hS (lv_sub hl [7, 2, 1, 0] rfl)
    · rw [if_pos c29_4] at hM
      refine lv_aload_n hx hb d_Merge_joinFolders_32 rfl (lv_at hl 6 rfl) ?_
      refine lv_iload hx hb d_Merge_joinFolders_33 (lv_at hl 0 rfl) ?_
      obtain ⟨t6, et6, hM⟩ := bS hM
      refine r_callVi (x := t6) C hS cv_Merge_143 (c_Moves_follow l base D cI cZ h l3 t3 et6) (o_Moves_follow et6) (rest := []) rfl hl.1 rfl (Nat.le_of_ble_eq_true rfl) ⟨(Nat.le_of_ble_eq_true rfl), (Nat.le_of_ble_eq_true rfl)⟩ ⟨(Nat.le_of_ble_eq_true rfl), (Nat.le_of_ble_eq_true rfl)⟩ d_Merge_joinFolders_35 (fun H locs hS => ?_)
      obtain rfl := Option.some.inj hM
      exact r_iret C hS d_Merge_joinFolders_38
theorem c_Merge_joinFolders (l : Launch) (base : Nat) (D : va_G) (cI cZ : ClassId) (h : Hp) (l0 : Int32) (l1 : Int32) (l2 : Int32) (l3 : Nat) (l4 : Nat) {r : Int32} (hM : f_Merge_joinFolders h l0 l1 l2 l3 l4 = some r) : Ct l base D cI cZ y_Merge_joinFolders b_Merge_joinFolders 8 (some .int) 2 51 0 0 h [.int l0, .int l1, .int l2, .ref (base + l3), .ref (base + l4)] h (some (.int r)) :=
  ct_of (by decide) (Nat.le_of_ble_eq_true rfl) (fun p e s m below meth c ls C hS hl => t_Merge_joinFolders C hM _ _ _ hS hl)
theorem d_Three_joinContents_0 : decode b_Three_joinContents 0 = .ok (.iload_n 0, 1) := by decide +kernel
theorem d_Three_joinContents_1 : decode b_Three_joinContents 1 = .ok (.iload_n 1, 1) := by decide +kernel
theorem d_Three_joinContents_2 : decode b_Three_joinContents 2 = .ok (.iload_n 2, 1) := by decide +kernel
theorem d_Three_joinContents_3 : decode b_Three_joinContents 3 = .ok (.invokestatic 21, 3) := by decide +kernel
theorem d_Three_joinContents_6 : decode b_Three_joinContents 6 = .ok (.ifCond .eq 12, 3) := by decide +kernel
theorem d_Three_joinContents_9 : decode b_Three_joinContents 9 = .ok (.iload_n 0, 1) := by decide +kernel
theorem d_Three_joinContents_10 : decode b_Three_joinContents 10 = .ok (.iload_n 1, 1) := by decide +kernel
theorem d_Three_joinContents_11 : decode b_Three_joinContents 11 = .ok (.iload_n 2, 1) := by decide +kernel
theorem d_Three_joinContents_12 : decode b_Three_joinContents 12 = .ok (.invokestatic 27, 3) := by decide +kernel
theorem d_Three_joinContents_15 : decode b_Three_joinContents 15 = .ok (.ifCond .ne 10, 3) := by decide +kernel
theorem d_Three_joinContents_18 : decode b_Three_joinContents 18 = .ok (.iload_n 0, 1) := by decide +kernel
theorem d_Three_joinContents_19 : decode b_Three_joinContents 19 = .ok (.iload_n 1, 1) := by decide +kernel
theorem d_Three_joinContents_20 : decode b_Three_joinContents 20 = .ok (.iload_n 2, 1) := by decide +kernel
theorem d_Three_joinContents_21 : decode b_Three_joinContents 21 = .ok (.invokestatic 30, 3) := by decide +kernel
theorem d_Three_joinContents_24 : decode b_Three_joinContents 24 = .ok (.ireturn, 1) := by decide +kernel
theorem d_Three_joinContents_25 : decode b_Three_joinContents 25 = .ok (.iload_n 0, 1) := by decide +kernel
theorem d_Three_joinContents_26 : decode b_Three_joinContents 26 = .ok (.invokestatic 15, 3) := by decide +kernel
theorem d_Three_joinContents_29 : decode b_Three_joinContents 29 = .ok (.istore_n 3, 1) := by decide +kernel
theorem d_Three_joinContents_30 : decode b_Three_joinContents 30 = .ok (.iload_n 0, 1) := by decide +kernel
theorem d_Three_joinContents_31 : decode b_Three_joinContents 31 = .ok (.istore 4, 2) := by decide +kernel
theorem d_Three_joinContents_33 : decode b_Three_joinContents 33 = .ok (.iload_n 1, 1) := by decide +kernel
theorem d_Three_joinContents_34 : decode b_Three_joinContents 34 = .ok (.istore 5, 2) := by decide +kernel
theorem d_Three_joinContents_36 : decode b_Three_joinContents 36 = .ok (.iload_n 2, 1) := by decide +kernel
theorem d_Three_joinContents_37 : decode b_Three_joinContents 37 = .ok (.istore 6, 2) := by decide +kernel
theorem d_Three_joinContents_39 : decode b_Three_joinContents 39 = .ok (.iconst 0, 1) := by decide +kernel
theorem d_Three_joinContents_40 : decode b_Three_joinContents 40 = .ok (.istore 7, 2) := by decide +kernel
theorem d_Three_joinContents_42 : decode b_Three_joinContents 42 = .ok (.iconst 1, 1) := by decide +kernel
theorem d_Three_joinContents_43 : decode b_Three_joinContents 43 = .ok (.istore 8, 2) := by decide +kernel
theorem d_Three_joinContents_45 : decode b_Three_joinContents 45 = .ok (.iconst 0, 1) := by decide +kernel
theorem d_Three_joinContents_46 : decode b_Three_joinContents 46 = .ok (.istore 9, 2) := by decide +kernel
theorem d_Three_joinContents_48 : decode b_Three_joinContents 48 = .ok (.iload 9, 2) := by decide +kernel
theorem d_Three_joinContents_50 : decode b_Three_joinContents 50 = .ok (.iload_n 3, 1) := by decide +kernel
theorem d_Three_joinContents_51 : decode b_Three_joinContents 51 = .ok (.if_icmp .ge 63, 3) := by decide +kernel
theorem d_Three_joinContents_54 : decode b_Three_joinContents 54 = .ok (.iload 7, 2) := by decide +kernel
theorem d_Three_joinContents_56 : decode b_Three_joinContents 56 = .ok (.iload 8, 2) := by decide +kernel
theorem d_Three_joinContents_58 : decode b_Three_joinContents 58 = .ok (.iload 4, 2) := by decide +kernel
theorem d_Three_joinContents_60 : decode b_Three_joinContents 60 = .ok (.bipush 10, 2) := by decide +kernel
theorem d_Three_joinContents_62 : decode b_Three_joinContents 62 = .ok (.irem, 1) := by decide +kernel
theorem d_Three_joinContents_63 : decode b_Three_joinContents 63 = .ok (.iload 5, 2) := by decide +kernel
theorem d_Three_joinContents_65 : decode b_Three_joinContents 65 = .ok (.bipush 10, 2) := by decide +kernel
theorem d_Three_joinContents_67 : decode b_Three_joinContents 67 = .ok (.irem, 1) := by decide +kernel
theorem d_Three_joinContents_68 : decode b_Three_joinContents 68 = .ok (.iload 6, 2) := by decide +kernel
theorem d_Three_joinContents_70 : decode b_Three_joinContents 70 = .ok (.bipush 10, 2) := by decide +kernel
theorem d_Three_joinContents_72 : decode b_Three_joinContents 72 = .ok (.irem, 1) := by decide +kernel
theorem d_Three_joinContents_73 : decode b_Three_joinContents 73 = .ok (.invokestatic 30, 3) := by decide +kernel
theorem d_Three_joinContents_76 : decode b_Three_joinContents 76 = .ok (.imul, 1) := by decide +kernel
theorem d_Three_joinContents_77 : decode b_Three_joinContents 77 = .ok (.iadd, 1) := by decide +kernel
theorem d_Three_joinContents_78 : decode b_Three_joinContents 78 = .ok (.istore 7, 2) := by decide +kernel
theorem d_Three_joinContents_80 : decode b_Three_joinContents 80 = .ok (.iload 4, 2) := by decide +kernel
theorem d_Three_joinContents_82 : decode b_Three_joinContents 82 = .ok (.bipush 10, 2) := by decide +kernel
theorem d_Three_joinContents_84 : decode b_Three_joinContents 84 = .ok (.idiv, 1) := by decide +kernel
theorem d_Three_joinContents_85 : decode b_Three_joinContents 85 = .ok (.istore 4, 2) := by decide +kernel
theorem d_Three_joinContents_87 : decode b_Three_joinContents 87 = .ok (.iload 5, 2) := by decide +kernel
theorem d_Three_joinContents_89 : decode b_Three_joinContents 89 = .ok (.bipush 10, 2) := by decide +kernel
theorem d_Three_joinContents_91 : decode b_Three_joinContents 91 = .ok (.idiv, 1) := by decide +kernel
theorem d_Three_joinContents_92 : decode b_Three_joinContents 92 = .ok (.istore 5, 2) := by decide +kernel
theorem d_Three_joinContents_94 : decode b_Three_joinContents 94 = .ok (.iload 6, 2) := by decide +kernel
theorem d_Three_joinContents_96 : decode b_Three_joinContents 96 = .ok (.bipush 10, 2) := by decide +kernel
theorem d_Three_joinContents_98 : decode b_Three_joinContents 98 = .ok (.idiv, 1) := by decide +kernel
theorem d_Three_joinContents_99 : decode b_Three_joinContents 99 = .ok (.istore 6, 2) := by decide +kernel
theorem d_Three_joinContents_101 : decode b_Three_joinContents 101 = .ok (.iload 8, 2) := by decide +kernel
theorem d_Three_joinContents_103 : decode b_Three_joinContents 103 = .ok (.bipush 10, 2) := by decide +kernel
theorem d_Three_joinContents_105 : decode b_Three_joinContents 105 = .ok (.imul, 1) := by decide +kernel
theorem d_Three_joinContents_106 : decode b_Three_joinContents 106 = .ok (.istore 8, 2) := by decide +kernel
theorem d_Three_joinContents_108 : decode b_Three_joinContents 108 = .ok (.iinc 9 1, 3) := by decide +kernel
theorem d_Three_joinContents_111 : decode b_Three_joinContents 111 = .ok (.goto (-63), 3) := by decide +kernel
theorem d_Three_joinContents_114 : decode b_Three_joinContents 114 = .ok (.iload 8, 2) := by decide +kernel
theorem d_Three_joinContents_116 : decode b_Three_joinContents 116 = .ok (.iload 7, 2) := by decide +kernel
theorem d_Three_joinContents_118 : decode b_Three_joinContents 118 = .ok (.iadd, 1) := by decide +kernel
theorem d_Three_joinContents_119 : decode b_Three_joinContents 119 = .ok (.ireturn, 1) := by decide +kernel
def f_Three_joinContents_18 (l0 : Int32) (l1 : Int32) (l2 : Int32) : Option Int32 :=
  (f_Three_join l0 l1 l2).bind fun t2 =>
  some t2
set_option maxHeartbeats 4000000 in
set_option maxRecDepth 100000 in
theorem t_Three_joinContents_18 {h : Hp} {l0 : Int32} {l1 : Int32} {l2 : Int32} {r : Int32} (C : Cx base D cI cZ b_Three_joinContents 10 "MovedFolders$Three" "joinContents" (some .int) p s m args meth c)  (hM : f_Three_joinContents_18 l0 l1 l2 = some r) (H : Heap) (locs : List Loc) (ls : Array Slot) (hS : RS base D cI cZ s H locs h) (hl : lv_has ls 10 [(0, .int l0), (1, .int l1), (2, .int l2)]) : Wg l base D cI cZ 2 46 0 0 h (some (.int r)) p e s m args below meth c H locs 0 0 (F0 m 18 ls []) := by
  have hx := C.1
  have hb := C.2.1
  unfold f_Three_joinContents_18 at hM
  refine lv_iload_n hx hb d_Three_joinContents_18 rfl (lv_at hl 0 rfl) ?_
  refine lv_iload_n hx hb d_Three_joinContents_19 rfl (lv_at hl 1 rfl) ?_
  refine lv_iload_n hx hb d_Three_joinContents_20 rfl (lv_at hl 2 rfl) ?_
  obtain ⟨t2, et2, hM⟩ := bS hM
  refine r_callSi (x := t2) C hS cs_Three_30 (c_Three_join l base D cI cZ h l0 l1 l2 et2) (rest := []) rfl hl.1 rfl (Nat.le_of_ble_eq_true rfl) ⟨(Nat.le_of_ble_eq_true rfl), (Nat.le_of_ble_eq_true rfl)⟩ ⟨(Nat.le_of_ble_eq_true rfl), (Nat.le_of_ble_eq_true rfl)⟩ d_Three_joinContents_21 (fun H locs hS => ?_)
  obtain rfl := Option.some.inj hM
  exact r_iret C hS d_Three_joinContents_24
def f_Three_joinContents_48 (l3 : Int32) : Nat → Int32 → Int32 → Int32 → Int32 → Int32 → Int32 → Option Int32
  | 0, _, _, _, _, _, _ => none
  | n + 1, l4, l5, l6, l7, l8, l9 =>
    if l3 ≤ l9 then (
      some (l8 + l7)
    ) else (
      (f_Three_join (irem l4 (10 : Int32)) (irem l5 (10 : Int32)) (irem l6 (10 : Int32))).bind fun t5 =>
      f_Three_joinContents_48 l3 n (l4 / (10 : Int32)) (l5 / (10 : Int32)) (l6 / (10 : Int32)) (l7 + (l8 * t5)) (l8 * (10 : Int32)) (l9 + (1 : Int32))
    )
set_option maxHeartbeats 4000000 in
set_option maxRecDepth 100000 in
theorem t_Three_joinContents_48 {h : Hp} {l3 : Int32} {r : Int32} (C : Cx base D cI cZ b_Three_joinContents 10 "MovedFolders$Three" "joinContents" (some .int) p s m args meth c)  : ∀ (n : Nat) (l4 : Int32) (l5 : Int32) (l6 : Int32) (l7 : Int32) (l8 : Int32) (l9 : Int32), f_Three_joinContents_48 l3 n l4 l5 l6 l7 l8 l9 = some r → ∀ (H : Heap) (locs : List Loc) (ls : Array Slot), RS base D cI cZ s H locs h → lv_has ls 10 [(3, .int l3), (4, .int l4), (5, .int l5), (6, .int l6), (7, .int l7), (8, .int l8), (9, .int l9)] → Wg l base D cI cZ 2 46 0 0 h (some (.int r)) p e s m args below meth c H locs 0 0 (F0 m 48 ls []) := by
  have hx := C.1
  have hb := C.2.1
  intro n
  induction n with
  | zero =>
    intro l4 l5 l6 l7 l8 l9 hM
    rw [f_Three_joinContents_48] at hM
    cases hM
  | succ n ih =>
    intro l4 l5 l6 l7 l8 l9 hM H locs ls hS hl
    rw [f_Three_joinContents_48] at hM
    refine lv_iload hx hb d_Three_joinContents_48 (lv_at hl 6 rfl) ?_
    refine lv_iload_n hx hb d_Three_joinContents_50 rfl (lv_at hl 0 rfl) ?_
    refine lv_icmp_ge (tgt := 114) hx hb d_Three_joinContents_51 (by decide) (fun c51_3 => ?_) (fun c51_3 => ?_)
    · rw [if_pos c51_3] at hM
      refine lv_iload hx hb d_Three_joinContents_114 (lv_at hl 5 rfl) ?_
      refine lv_iload hx hb d_Three_joinContents_116 (lv_at hl 4 rfl) ?_
      refine lv_iadd hx hb d_Three_joinContents_118 ?_
      obtain rfl := Option.some.inj hM
      exact r_iret C hS d_Three_joinContents_119
    · rw [if_neg c51_3] at hM
      refine lv_iload hx hb d_Three_joinContents_54 (lv_at hl 4 rfl) ?_
      refine lv_iload hx hb d_Three_joinContents_56 (lv_at hl 5 rfl) ?_
      refine lv_iload hx hb d_Three_joinContents_58 (lv_at hl 1 rfl) ?_
      refine lv_bipush (v := (10 : Int32)) hx hb d_Three_joinContents_60 (by decide) ?_
      refine r_irem hx hb d_Three_joinContents_62 (by decide) ?_
      refine lv_iload hx hb d_Three_joinContents_63 (lv_at hl 2 rfl) ?_
      refine lv_bipush (v := (10 : Int32)) hx hb d_Three_joinContents_65 (by decide) ?_
      refine r_irem hx hb d_Three_joinContents_67 (by decide) ?_
      refine lv_iload hx hb d_Three_joinContents_68 (lv_at hl 3 rfl) ?_
      refine lv_bipush (v := (10 : Int32)) hx hb d_Three_joinContents_70 (by decide) ?_
      refine r_irem hx hb d_Three_joinContents_72 (by decide) ?_
      obtain ⟨t5, et5, hM⟩ := bS hM
      refine r_callSi (x := t5) C hS cs_Three_30 (c_Three_join l base D cI cZ h (irem l4 (10 : Int32)) (irem l5 (10 : Int32)) (irem l6 (10 : Int32)) et5) (rest := [.int l8, .int l7]) rfl hl.1 rfl (Nat.le_of_ble_eq_true rfl) ⟨(Nat.le_of_ble_eq_true rfl), (Nat.le_of_ble_eq_true rfl)⟩ ⟨(Nat.le_of_ble_eq_true rfl), (Nat.le_of_ble_eq_true rfl)⟩ d_Three_joinContents_73 (fun H locs hS => ?_)
      refine lv_imul hx hb d_Three_joinContents_76 ?_
      refine lv_iadd hx hb d_Three_joinContents_77 ?_
      refine lv_istore (lv' := [(7, .int (l7 + (l8 * t5))), (3, .int l3), (4, .int l4), (5, .int l5), (6, .int l6), (8, .int l8), (9, .int l9)]) hx hb d_Three_joinContents_78 hl (by decide) rfl (fun ls hl => ?_)
      refine lv_iload hx hb d_Three_joinContents_80 (lv_at hl 2 rfl) ?_
      refine lv_bipush (v := (10 : Int32)) hx hb d_Three_joinContents_82 (by decide) ?_
      refine lv_idiv hx hb d_Three_joinContents_84 (by decide) ?_
      refine lv_istore (lv' := [(4, .int (l4 / (10 : Int32))), (7, .int (l7 + (l8 * t5))), (3, .int l3), (5, .int l5), (6, .int l6), (8, .int l8), (9, .int l9)]) hx hb d_Three_joinContents_85 hl (by decide) rfl (fun ls hl => ?_)
      refine lv_iload hx hb d_Three_joinContents_87 (lv_at hl 3 rfl) ?_
      refine lv_bipush (v := (10 : Int32)) hx hb d_Three_joinContents_89 (by decide) ?_
      refine lv_idiv hx hb d_Three_joinContents_91 (by decide) ?_
      refine lv_istore (lv' := [(5, .int (l5 / (10 : Int32))), (4, .int (l4 / (10 : Int32))), (7, .int (l7 + (l8 * t5))), (3, .int l3), (6, .int l6), (8, .int l8), (9, .int l9)]) hx hb d_Three_joinContents_92 hl (by decide) rfl (fun ls hl => ?_)
      refine lv_iload hx hb d_Three_joinContents_94 (lv_at hl 4 rfl) ?_
      refine lv_bipush (v := (10 : Int32)) hx hb d_Three_joinContents_96 (by decide) ?_
      refine lv_idiv hx hb d_Three_joinContents_98 (by decide) ?_
      refine lv_istore (lv' := [(6, .int (l6 / (10 : Int32))), (5, .int (l5 / (10 : Int32))), (4, .int (l4 / (10 : Int32))), (7, .int (l7 + (l8 * t5))), (3, .int l3), (8, .int l8), (9, .int l9)]) hx hb d_Three_joinContents_99 hl (by decide) rfl (fun ls hl => ?_)
      refine lv_iload hx hb d_Three_joinContents_101 (lv_at hl 5 rfl) ?_
      refine lv_bipush (v := (10 : Int32)) hx hb d_Three_joinContents_103 (by decide) ?_
      refine lv_imul hx hb d_Three_joinContents_105 ?_
      refine lv_istore (lv' := [(8, .int (l8 * (10 : Int32))), (6, .int (l6 / (10 : Int32))), (5, .int (l5 / (10 : Int32))), (4, .int (l4 / (10 : Int32))), (7, .int (l7 + (l8 * t5))), (3, .int l3), (9, .int l9)]) hx hb d_Three_joinContents_106 hl (by decide) rfl (fun ls hl => ?_)
      refine lv_iinc (v := (l9 + (1 : Int32))) (lv' := [(9, .int (l9 + (1 : Int32))), (8, .int (l8 * (10 : Int32))), (6, .int (l6 / (10 : Int32))), (5, .int (l5 / (10 : Int32))), (4, .int (l4 / (10 : Int32))), (7, .int (l7 + (l8 * t5))), (3, .int l3)]) hx hb d_Three_joinContents_108 hl (k := 6) rfl (by rw [oi_1]) (by decide) rfl (fun ls hl => ?_)
      refine lv_goto (tgt := 48) hx hb d_Three_joinContents_111 (by decide) ?_
      exact ih (l4 / (10 : Int32)) (l5 / (10 : Int32)) (l6 / (10 : Int32)) (l7 + (l8 * t5)) (l8 * (10 : Int32)) (l9 + (1 : Int32)) hM _ _ _ hS (lv_sub hl [6, 4, 3, 2, 5, 1, 0] rfl)
def f_Three_joinContents (l0 : Int32) (l1 : Int32) (l2 : Int32) : Option Int32 :=
  (f_Three_differ l0 l1 l2).bind fun t1 =>
  if t1 = (0 : Int32) then (
    f_Three_joinContents_18 l0 l1 l2
  ) else (
    (f_Three_sameCount l0 l1 l2).bind fun t3 =>
    if t3 = (0 : Int32) then (
      f_Three_joinContents_18 l0 l1 l2
    ) else (
      (f_Pieces_countOf l0).bind fun t4 =>
      f_Three_joinContents_48 t4 FU l0 l1 l2 (0 : Int32) (1 : Int32) (0 : Int32)
    )
  )
set_option maxHeartbeats 4000000 in
set_option maxRecDepth 100000 in
theorem t_Three_joinContents {h : Hp} {l0 : Int32} {l1 : Int32} {l2 : Int32} {r : Int32} (C : Cx base D cI cZ b_Three_joinContents 10 "MovedFolders$Three" "joinContents" (some .int) p s m args meth c) (hM : f_Three_joinContents l0 l1 l2 = some r) (H : Heap) (locs : List Loc) (ls : Array Slot) (hS : RS base D cI cZ s H locs h) (hl : lv_has ls 10 [(0, .int l0), (1, .int l1), (2, .int l2)]) : Wg l base D cI cZ 2 46 0 0 h (some (.int r)) p e s m args below meth c H locs 0 0 (F0 m 0 ls []) := by
  have hx := C.1
  have hb := C.2.1
  unfold f_Three_joinContents at hM
  refine lv_iload_n hx hb d_Three_joinContents_0 rfl (lv_at hl 0 rfl) ?_
  refine lv_iload_n hx hb d_Three_joinContents_1 rfl (lv_at hl 1 rfl) ?_
  refine lv_iload_n hx hb d_Three_joinContents_2 rfl (lv_at hl 2 rfl) ?_
  obtain ⟨t1, et1, hM⟩ := bS hM
  refine r_callSi (x := t1) C hS cs_Three_21 (c_Three_differ l base D cI cZ h l0 l1 l2 et1) (rest := []) rfl hl.1 rfl (Nat.le_of_ble_eq_true rfl) ⟨(Nat.le_of_ble_eq_true rfl), (Nat.le_of_ble_eq_true rfl)⟩ ⟨(Nat.le_of_ble_eq_true rfl), (Nat.le_of_ble_eq_true rfl)⟩ d_Three_joinContents_3 (fun H locs hS => ?_)
  refine lv_if_eq (tgt := 18) hx hb d_Three_joinContents_6 (by decide) (fun c6_1 => ?_) (fun c6_1 => ?_)
  · rw [if_pos c6_1] at hM
    exact t_Three_joinContents_18  C  hM _ _ _ hS (lv_sub hl [0, 1, 2] rfl)
  · rw [if_neg c6_1] at hM
    refine lv_iload_n hx hb d_Three_joinContents_9 rfl (lv_at hl 0 rfl) ?_
    refine lv_iload_n hx hb d_Three_joinContents_10 rfl (lv_at hl 1 rfl) ?_
    refine lv_iload_n hx hb d_Three_joinContents_11 rfl (lv_at hl 2 rfl) ?_
    obtain ⟨t3, et3, hM⟩ := bS hM
    refine r_callSi (x := t3) C hS cs_Three_27 (c_Three_sameCount l base D cI cZ h l0 l1 l2 et3) (rest := []) rfl hl.1 rfl (Nat.le_of_ble_eq_true rfl) ⟨(Nat.le_of_ble_eq_true rfl), (Nat.le_of_ble_eq_true rfl)⟩ ⟨(Nat.le_of_ble_eq_true rfl), (Nat.le_of_ble_eq_true rfl)⟩ d_Three_joinContents_12 (fun H locs hS => ?_)
    refine lv_if_ne (tgt := 25) hx hb d_Three_joinContents_15 (by decide) (fun c15_2 => ?_) (fun c15_2 => ?_)
    · rw [if_neg c15_2] at hM
      refine lv_iload_n hx hb d_Three_joinContents_25 rfl (lv_at hl 0 rfl) ?_
      obtain ⟨t4, et4, hM⟩ := bS hM
      refine r_callSi (x := t4) C hS cs_Three_15 (c_Pieces_countOf l base D cI cZ h l0 et4) (rest := []) rfl hl.1 rfl (Nat.le_of_ble_eq_true rfl) ⟨(Nat.le_of_ble_eq_true rfl), (Nat.le_of_ble_eq_true rfl)⟩ ⟨(Nat.le_of_ble_eq_true rfl), (Nat.le_of_ble_eq_true rfl)⟩ d_Three_joinContents_26 (fun H locs hS => ?_)
      refine lv_istore_n (lv' := [(3, .int t4), (0, .int l0), (1, .int l1), (2, .int l2)]) hx hb d_Three_joinContents_29 rfl hl (by decide) rfl (fun ls hl => ?_)
      refine lv_iload_n hx hb d_Three_joinContents_30 rfl (lv_at hl 1 rfl) ?_
      refine lv_istore (lv' := [(4, .int l0), (3, .int t4), (0, .int l0), (1, .int l1), (2, .int l2)]) hx hb d_Three_joinContents_31 hl (by decide) rfl (fun ls hl => ?_)
      refine lv_iload_n hx hb d_Three_joinContents_33 rfl (lv_at hl 3 rfl) ?_
      refine lv_istore (lv' := [(5, .int l1), (4, .int l0), (3, .int t4), (0, .int l0), (1, .int l1), (2, .int l2)]) hx hb d_Three_joinContents_34 hl (by decide) rfl (fun ls hl => ?_)
      refine lv_iload_n hx hb d_Three_joinContents_36 rfl (lv_at hl 5 rfl) ?_
      refine lv_istore (lv' := [(6, .int l2), (5, .int l1), (4, .int l0), (3, .int t4), (0, .int l0), (1, .int l1), (2, .int l2)]) hx hb d_Three_joinContents_37 hl (by decide) rfl (fun ls hl => ?_)
      refine lv_iconst (v := (0 : Int32)) hx hb d_Three_joinContents_39 (by decide) ?_
      refine lv_istore (lv' := [(7, .int (0 : Int32)), (6, .int l2), (5, .int l1), (4, .int l0), (3, .int t4), (0, .int l0), (1, .int l1), (2, .int l2)]) hx hb d_Three_joinContents_40 hl (by decide) rfl (fun ls hl => ?_)
      refine lv_iconst (v := (1 : Int32)) hx hb d_Three_joinContents_42 (by decide) ?_
      refine lv_istore (lv' := [(8, .int (1 : Int32)), (7, .int (0 : Int32)), (6, .int l2), (5, .int l1), (4, .int l0), (3, .int t4), (0, .int l0), (1, .int l1), (2, .int l2)]) hx hb d_Three_joinContents_43 hl (by decide) rfl (fun ls hl => ?_)
      refine lv_iconst (v := (0 : Int32)) hx hb d_Three_joinContents_45 (by decide) ?_
      refine lv_istore (lv' := [(9, .int (0 : Int32)), (8, .int (1 : Int32)), (7, .int (0 : Int32)), (6, .int l2), (5, .int l1), (4, .int l0), (3, .int t4), (0, .int l0), (1, .int l1), (2, .int l2)]) hx hb d_Three_joinContents_46 hl (by decide) rfl (fun ls hl => ?_)
      exact t_Three_joinContents_48  C  FU l0 l1 l2 (0 : Int32) (1 : Int32) (0 : Int32) hM _ _ _ hS (lv_sub hl [6, 5, 4, 3, 2, 1, 0] rfl)
    · rw [if_pos c15_2] at hM
      exact t_Three_joinContents_18  C  hM _ _ _ hS (lv_sub hl [0, 1, 2] rfl)
theorem c_Three_joinContents (l : Launch) (base : Nat) (D : va_G) (cI cZ : ClassId) (h : Hp) (l0 : Int32) (l1 : Int32) (l2 : Int32) {r : Int32} (hM : f_Three_joinContents l0 l1 l2 = some r) : Ct l base D cI cZ y_Three_joinContents b_Three_joinContents 10 (some .int) 2 46 0 0 h [.int l0, .int l1, .int l2] h (some (.int r)) :=
  ct_of (by decide) (Nat.le_of_ble_eq_true rfl) (fun p e s m below meth c ls C hS hl => t_Three_joinContents C hM _ _ _ hS hl)
theorem d_Merge_isBehind_0 : decode b_Merge_isBehind 0 = .ok (.aload_n 0, 1) := by decide +kernel
theorem d_Merge_isBehind_1 : decode b_Merge_isBehind 1 = .ok (.getfield 9, 3) := by decide +kernel
theorem d_Merge_isBehind_4 : decode b_Merge_isBehind 4 = .ok (.iload_n 1, 1) := by decide +kernel
theorem d_Merge_isBehind_5 : decode b_Merge_isBehind 5 = .ok (.iaload, 1) := by decide +kernel
theorem d_Merge_isBehind_6 : decode b_Merge_isBehind 6 = .ok (.iload_n 2, 1) := by decide +kernel
theorem d_Merge_isBehind_7 : decode b_Merge_isBehind 7 = .ok (.if_icmp .eq 19, 3) := by decide +kernel
theorem d_Merge_isBehind_10 : decode b_Merge_isBehind 10 = .ok (.aload_n 0, 1) := by decide +kernel
theorem d_Merge_isBehind_11 : decode b_Merge_isBehind 11 = .ok (.getfield 9, 3) := by decide +kernel
theorem d_Merge_isBehind_14 : decode b_Merge_isBehind 14 = .ok (.iload_n 1, 1) := by decide +kernel
theorem d_Merge_isBehind_15 : decode b_Merge_isBehind 15 = .ok (.iaload, 1) := by decide +kernel
theorem d_Merge_isBehind_16 : decode b_Merge_isBehind 16 = .ok (.iload_n 2, 1) := by decide +kernel
theorem d_Merge_isBehind_17 : decode b_Merge_isBehind 17 = .ok (.if_icmp .le 7, 3) := by decide +kernel
theorem d_Merge_isBehind_20 : decode b_Merge_isBehind 20 = .ok (.iconst 1, 1) := by decide +kernel
theorem d_Merge_isBehind_21 : decode b_Merge_isBehind 21 = .ok (.goto 4, 3) := by decide +kernel
theorem d_Merge_isBehind_24 : decode b_Merge_isBehind 24 = .ok (.iconst 0, 1) := by decide +kernel
theorem d_Merge_isBehind_25 : decode b_Merge_isBehind 25 = .ok (.ireturn, 1) := by decide +kernel
theorem d_Merge_isBehind_26 : decode b_Merge_isBehind 26 = .ok (.aload_n 0, 1) := by decide +kernel
theorem d_Merge_isBehind_27 : decode b_Merge_isBehind 27 = .ok (.getfield 15, 3) := by decide +kernel
theorem d_Merge_isBehind_30 : decode b_Merge_isBehind 30 = .ok (.iload_n 1, 1) := by decide +kernel
theorem d_Merge_isBehind_31 : decode b_Merge_isBehind 31 = .ok (.iaload, 1) := by decide +kernel
theorem d_Merge_isBehind_32 : decode b_Merge_isBehind 32 = .ok (.iload_n 3, 1) := by decide +kernel
theorem d_Merge_isBehind_33 : decode b_Merge_isBehind 33 = .ok (.if_icmp .eq 19, 3) := by decide +kernel
theorem d_Merge_isBehind_36 : decode b_Merge_isBehind 36 = .ok (.aload_n 0, 1) := by decide +kernel
theorem d_Merge_isBehind_37 : decode b_Merge_isBehind 37 = .ok (.getfield 15, 3) := by decide +kernel
theorem d_Merge_isBehind_40 : decode b_Merge_isBehind 40 = .ok (.iload_n 1, 1) := by decide +kernel
theorem d_Merge_isBehind_41 : decode b_Merge_isBehind 41 = .ok (.iaload, 1) := by decide +kernel
theorem d_Merge_isBehind_42 : decode b_Merge_isBehind 42 = .ok (.iload_n 3, 1) := by decide +kernel
theorem d_Merge_isBehind_43 : decode b_Merge_isBehind 43 = .ok (.if_icmp .le 7, 3) := by decide +kernel
theorem d_Merge_isBehind_46 : decode b_Merge_isBehind 46 = .ok (.iconst 1, 1) := by decide +kernel
theorem d_Merge_isBehind_47 : decode b_Merge_isBehind 47 = .ok (.goto 4, 3) := by decide +kernel
theorem d_Merge_isBehind_50 : decode b_Merge_isBehind 50 = .ok (.iconst 0, 1) := by decide +kernel
theorem d_Merge_isBehind_51 : decode b_Merge_isBehind 51 = .ok (.ireturn, 1) := by decide +kernel
theorem d_Merge_isBehind_52 : decode b_Merge_isBehind 52 = .ok (.aload_n 0, 1) := by decide +kernel
theorem d_Merge_isBehind_53 : decode b_Merge_isBehind 53 = .ok (.getfield 18, 3) := by decide +kernel
theorem d_Merge_isBehind_56 : decode b_Merge_isBehind 56 = .ok (.iload_n 1, 1) := by decide +kernel
theorem d_Merge_isBehind_57 : decode b_Merge_isBehind 57 = .ok (.iaload, 1) := by decide +kernel
theorem d_Merge_isBehind_58 : decode b_Merge_isBehind 58 = .ok (.iload 4, 2) := by decide +kernel
theorem d_Merge_isBehind_60 : decode b_Merge_isBehind 60 = .ok (.if_icmp .eq 22, 3) := by decide +kernel
theorem d_Merge_isBehind_63 : decode b_Merge_isBehind 63 = .ok (.aload_n 0, 1) := by decide +kernel
theorem d_Merge_isBehind_64 : decode b_Merge_isBehind 64 = .ok (.getfield 18, 3) := by decide +kernel
theorem d_Merge_isBehind_67 : decode b_Merge_isBehind 67 = .ok (.iload_n 1, 1) := by decide +kernel
theorem d_Merge_isBehind_68 : decode b_Merge_isBehind 68 = .ok (.iaload, 1) := by decide +kernel
theorem d_Merge_isBehind_69 : decode b_Merge_isBehind 69 = .ok (.iload 4, 2) := by decide +kernel
theorem d_Merge_isBehind_71 : decode b_Merge_isBehind 71 = .ok (.if_icmp .le 7, 3) := by decide +kernel
theorem d_Merge_isBehind_74 : decode b_Merge_isBehind 74 = .ok (.iconst 1, 1) := by decide +kernel
theorem d_Merge_isBehind_75 : decode b_Merge_isBehind 75 = .ok (.goto 23, 3) := by decide +kernel
theorem d_Merge_isBehind_78 : decode b_Merge_isBehind 78 = .ok (.iconst 0, 1) := by decide +kernel
theorem d_Merge_isBehind_79 : decode b_Merge_isBehind 79 = .ok (.goto 19, 3) := by decide +kernel
theorem d_Merge_isBehind_82 : decode b_Merge_isBehind 82 = .ok (.aload_n 0, 1) := by decide +kernel
theorem d_Merge_isBehind_83 : decode b_Merge_isBehind 83 = .ok (.getfield 21, 3) := by decide +kernel
theorem d_Merge_isBehind_86 : decode b_Merge_isBehind 86 = .ok (.iload_n 1, 1) := by decide +kernel
theorem d_Merge_isBehind_87 : decode b_Merge_isBehind 87 = .ok (.iaload, 1) := by decide +kernel
theorem d_Merge_isBehind_88 : decode b_Merge_isBehind 88 = .ok (.iload 5, 2) := by decide +kernel
theorem d_Merge_isBehind_90 : decode b_Merge_isBehind 90 = .ok (.if_icmp .le 7, 3) := by decide +kernel
theorem d_Merge_isBehind_93 : decode b_Merge_isBehind 93 = .ok (.iconst 1, 1) := by decide +kernel
theorem d_Merge_isBehind_94 : decode b_Merge_isBehind 94 = .ok (.goto 4, 3) := by decide +kernel
theorem d_Merge_isBehind_97 : decode b_Merge_isBehind 97 = .ok (.iconst 0, 1) := by decide +kernel
theorem d_Merge_isBehind_98 : decode b_Merge_isBehind 98 = .ok (.ireturn, 1) := by decide +kernel
def f_Merge_isBehind (h : Hp) (l0 : Nat) (l1 : Int32) (l2 : Int32) (l3 : Int32) (l4 : Int32) (l5 : Int32) : Option Int32 :=
  ck h 2 l0 (
    (gR h 2 l0 0).bind fun t1 =>
    (gA h false t1 l1).bind fun t2 =>
    if t2 = l2 then (
      (gR h 2 l0 1).bind fun t3 =>
      (gA h false t3 l1).bind fun t4 =>
      if t4 = l3 then (
        (gR h 2 l0 2).bind fun t5 =>
        (gA h false t5 l1).bind fun t6 =>
        (
          if t6 = l4 then (
            (gR h 2 l0 3).bind fun t8 =>
            (gA h false t8 l1).bind fun t9 =>
            if t9 ≤ l5 then (
              some (0 : Int32)
            ) else (
              some (1 : Int32)
            )
          ) else (
            (gR h 2 l0 2).bind fun t10 =>
            (gA h false t10 l1).bind fun t11 =>
            if t11 ≤ l4 then (
              some (0 : Int32)
            ) else (
              some (1 : Int32)
            )
          )
        ).bind fun t7 =>
        rz t7
      ) else (
        (gR h 2 l0 1).bind fun t12 =>
        (gA h false t12 l1).bind fun t13 =>
        rz (if t13 ≤ l3 then ((0 : Int32)) else ((1 : Int32)))
      )
    ) else (
      (gR h 2 l0 0).bind fun t14 =>
      (gA h false t14 l1).bind fun t15 =>
      rz (if t15 ≤ l2 then ((0 : Int32)) else ((1 : Int32)))
    )
  )
theorem o_Merge_isBehind {h : Hp} {l0 : Nat} {l1 : Int32} {l2 : Int32} {l3 : Int32} {l4 : Int32} {l5 : Int32} {r : Int32} (hM : f_Merge_isBehind h l0 l1 l2 l3 l4 l5 = some r) : isO h 2 l0 = true := by
  unfold f_Merge_isBehind at hM
  exact (ck_some hM).1
set_option maxHeartbeats 4000000 in
set_option maxRecDepth 100000 in
theorem t_Merge_isBehind {h : Hp} {l0 : Nat} {l1 : Int32} {l2 : Int32} {l3 : Int32} {l4 : Int32} {l5 : Int32} {r : Int32} (C : Cx base D cI cZ b_Merge_isBehind 6 "MovedFolders$Merge" "isBehind" (some .boolean) p s m args meth c) (hM : f_Merge_isBehind h l0 l1 l2 l3 l4 l5 = some r) (H : Heap) (locs : List Loc) (ls : Array Slot) (hS : RS base D cI cZ s H locs h) (hl : lv_has ls 6 [(0, .ref (base + l0)), (1, .int l1), (2, .int l2), (3, .int l3), (4, .int l4), (5, .int l5)]) : Wg l base D cI cZ 0 0 0 0 h (some (.int r)) p e s m args below meth c H locs 0 0 (F0 m 0 ls []) := by
  have hx := C.1
  have hb := C.2.1
  unfold f_Merge_isBehind at hM
  replace hM := (ck_some hM).2
  refine lv_aload_n hx hb d_Merge_isBehind_0 rfl (lv_at hl 0 rfl) ?_
  obtain ⟨t1, et1, hM⟩ := bS hM
  refine r_getR C hS fl_Merge_9 et1 d_Merge_isBehind_1 ?_
  refine lv_iload_n hx hb d_Merge_isBehind_4 rfl (lv_at hl 1 rfl) ?_
  obtain ⟨t2, et2, hM⟩ := bS hM
  refine r_iald C hS et2 d_Merge_isBehind_5 ?_
  refine lv_iload_n hx hb d_Merge_isBehind_6 rfl (lv_at hl 2 rfl) ?_
  refine lv_icmp_eq (tgt := 26) hx hb d_Merge_isBehind_7 (by decide) (fun c7_1 => ?_) (fun c7_1 => ?_)
  · rw [if_pos c7_1] at hM
    refine lv_aload_n hx hb d_Merge_isBehind_26 rfl (lv_at hl 0 rfl) ?_
    obtain ⟨t3, et3, hM⟩ := bS hM
    refine r_getR C hS fl_Merge_15 et3 d_Merge_isBehind_27 ?_
    refine lv_iload_n hx hb d_Merge_isBehind_30 rfl (lv_at hl 1 rfl) ?_
    obtain ⟨t4, et4, hM⟩ := bS hM
    refine r_iald C hS et4 d_Merge_isBehind_31 ?_
    refine lv_iload_n hx hb d_Merge_isBehind_32 rfl (lv_at hl 3 rfl) ?_
    refine lv_icmp_eq (tgt := 52) hx hb d_Merge_isBehind_33 (by decide) (fun c33_2 => ?_) (fun c33_2 => ?_)
    · rw [if_pos c33_2] at hM
      refine lv_aload_n hx hb d_Merge_isBehind_52 rfl (lv_at hl 0 rfl) ?_
      obtain ⟨t5, et5, hM⟩ := bS hM
      refine r_getR C hS fl_Merge_18 et5 d_Merge_isBehind_53 ?_
      refine lv_iload_n hx hb d_Merge_isBehind_56 rfl (lv_at hl 1 rfl) ?_
      obtain ⟨t6, et6, hM⟩ := bS hM
      refine r_iald C hS et6 d_Merge_isBehind_57 ?_
      refine lv_iload hx hb d_Merge_isBehind_58 (lv_at hl 4 rfl) ?_
      obtain ⟨t7, et7, hM⟩ := bS hM
      have kJ98_3 : ∀ (H : Heap) (locs : List Loc) (ls : Array Slot), RS base D cI cZ s H locs h → lv_has ls 6 [] → Wg l base D cI cZ 0 0 0 0 h (some (.int r)) p e s m args below meth c H locs 0 0 (F0 m 98 ls [.int t7]) := by
        intro H locs ls hS hl
        exact r_zret C hS hM d_Merge_isBehind_98
      refine lv_icmp_eq (tgt := 82) hx hb d_Merge_isBehind_60 (by decide) (fun c60_4 => ?_) (fun c60_4 => ?_)
      · rw [if_pos c60_4] at et7
        refine lv_aload_n hx hb d_Merge_isBehind_82 rfl (lv_at hl 0 rfl) ?_
        obtain ⟨t8, et8, et7⟩ := bS et7
        refine r_getR C hS fl_Merge_21 et8 d_Merge_isBehind_83 ?_
        refine lv_iload_n hx hb d_Merge_isBehind_86 rfl (lv_at hl 1 rfl) ?_
        obtain ⟨t9, et9, et7⟩ := bS et7
        refine r_iald C hS et9 d_Merge_isBehind_87 ?_
        refine lv_iload hx hb d_Merge_isBehind_88 (lv_at hl 5 rfl) ?_
        refine lv_icmp_le (tgt := 97) hx hb d_Merge_isBehind_90 (by decide) (fun c90_5 => ?_) (fun c90_5 => ?_)
        · rw [if_pos c90_5] at et7
          refine lv_iconst (v := (0 : Int32)) hx hb d_Merge_isBehind_97 (by decide) ?_
          obtain rfl := Option.some.inj et7
          exact kJ98_3 _ _ _ hS (lv_sub hl [] rfl)
        · rw [if_neg c90_5] at et7
          refine lv_iconst (v := (1 : Int32)) hx hb d_Merge_isBehind_93 (by decide) ?_
          refine lv_goto (tgt := 98) hx hb d_Merge_isBehind_94 (by decide) ?_
          obtain rfl := Option.some.inj et7
          exact kJ98_3 _ _ _ hS (lv_sub hl [] rfl)
      · rw [if_neg c60_4] at et7
        refine lv_aload_n hx hb d_Merge_isBehind_63 rfl (lv_at hl 0 rfl) ?_
        obtain ⟨t10, et10, et7⟩ := bS et7
        refine r_getR C hS fl_Merge_18 et10 d_Merge_isBehind_64 ?_
        refine lv_iload_n hx hb d_Merge_isBehind_67 rfl (lv_at hl 1 rfl) ?_
        obtain ⟨t11, et11, et7⟩ := bS et7
        refine r_iald C hS et11 d_Merge_isBehind_68 ?_
        refine lv_iload hx hb d_Merge_isBehind_69 (lv_at hl 4 rfl) ?_
        refine lv_icmp_le (tgt := 78) hx hb d_Merge_isBehind_71 (by decide) (fun c71_6 => ?_) (fun c71_6 => ?_)
        · rw [if_pos c71_6] at et7
          refine lv_iconst (v := (0 : Int32)) hx hb d_Merge_isBehind_78 (by decide) ?_
          refine lv_goto (tgt := 98) hx hb d_Merge_isBehind_79 (by decide) ?_
          obtain rfl := Option.some.inj et7
          exact kJ98_3 _ _ _ hS (lv_sub hl [] rfl)
        · rw [if_neg c71_6] at et7
          refine lv_iconst (v := (1 : Int32)) hx hb d_Merge_isBehind_74 (by decide) ?_
          refine lv_goto (tgt := 98) hx hb d_Merge_isBehind_75 (by decide) ?_
          obtain rfl := Option.some.inj et7
          exact kJ98_3 _ _ _ hS (lv_sub hl [] rfl)
    · rw [if_neg c33_2] at hM
      refine lv_aload_n hx hb d_Merge_isBehind_36 rfl (lv_at hl 0 rfl) ?_
      obtain ⟨t12, et12, hM⟩ := bS hM
      refine r_getR C hS fl_Merge_15 et12 d_Merge_isBehind_37 ?_
      refine lv_iload_n hx hb d_Merge_isBehind_40 rfl (lv_at hl 1 rfl) ?_
      obtain ⟨t13, et13, hM⟩ := bS hM
      refine r_iald C hS et13 d_Merge_isBehind_41 ?_
      refine lv_iload_n hx hb d_Merge_isBehind_42 rfl (lv_at hl 3 rfl) ?_
      have kJ51_7 : ∀ (H : Heap) (locs : List Loc) (ls : Array Slot), RS base D cI cZ s H locs h → lv_has ls 6 [] → Wg l base D cI cZ 0 0 0 0 h (some (.int r)) p e s m args below meth c H locs 0 0 (F0 m 51 ls [.int (if t13 ≤ l3 then ((0 : Int32)) else ((1 : Int32)))]) := by
        intro H locs ls hS hl
        exact r_zret C hS hM d_Merge_isBehind_51
      refine lv_icmp_le (tgt := 50) hx hb d_Merge_isBehind_43 (by decide) (fun c43_8 => ?_) (fun c43_8 => ?_)
      · rw [if_pos c43_8] at kJ51_7
        refine lv_iconst (v := (0 : Int32)) hx hb d_Merge_isBehind_50 (by decide) ?_
        exact kJ51_7 _ _ _ hS (lv_sub hl [] rfl)
      · rw [if_neg c43_8] at kJ51_7
        refine lv_iconst (v := (1 : Int32)) hx hb d_Merge_isBehind_46 (by decide) ?_
        refine lv_goto (tgt := 51) hx hb d_Merge_isBehind_47 (by decide) ?_
        exact kJ51_7 _ _ _ hS (lv_sub hl [] rfl)
  · rw [if_neg c7_1] at hM
    refine lv_aload_n hx hb d_Merge_isBehind_10 rfl (lv_at hl 0 rfl) ?_
    obtain ⟨t14, et14, hM⟩ := bS hM
    refine r_getR C hS fl_Merge_9 et14 d_Merge_isBehind_11 ?_
    refine lv_iload_n hx hb d_Merge_isBehind_14 rfl (lv_at hl 1 rfl) ?_
    obtain ⟨t15, et15, hM⟩ := bS hM
    refine r_iald C hS et15 d_Merge_isBehind_15 ?_
    refine lv_iload_n hx hb d_Merge_isBehind_16 rfl (lv_at hl 2 rfl) ?_
    have kJ25_9 : ∀ (H : Heap) (locs : List Loc) (ls : Array Slot), RS base D cI cZ s H locs h → lv_has ls 6 [] → Wg l base D cI cZ 0 0 0 0 h (some (.int r)) p e s m args below meth c H locs 0 0 (F0 m 25 ls [.int (if t15 ≤ l2 then ((0 : Int32)) else ((1 : Int32)))]) := by
      intro H locs ls hS hl
      exact r_zret C hS hM d_Merge_isBehind_25
    refine lv_icmp_le (tgt := 24) hx hb d_Merge_isBehind_17 (by decide) (fun c17_10 => ?_) (fun c17_10 => ?_)
    · rw [if_pos c17_10] at kJ25_9
      refine lv_iconst (v := (0 : Int32)) hx hb d_Merge_isBehind_24 (by decide) ?_
      exact kJ25_9 _ _ _ hS (lv_sub hl [] rfl)
    · rw [if_neg c17_10] at kJ25_9
      refine lv_iconst (v := (1 : Int32)) hx hb d_Merge_isBehind_20 (by decide) ?_
      refine lv_goto (tgt := 25) hx hb d_Merge_isBehind_21 (by decide) ?_
      exact kJ25_9 _ _ _ hS (lv_sub hl [] rfl)
theorem c_Merge_isBehind (l : Launch) (base : Nat) (D : va_G) (cI cZ : ClassId) (h : Hp) (l0 : Nat) (l1 : Int32) (l2 : Int32) (l3 : Int32) (l4 : Int32) (l5 : Int32) {r : Int32} (hM : f_Merge_isBehind h l0 l1 l2 l3 l4 l5 = some r) : Ct l base D cI cZ y_Merge_isBehind b_Merge_isBehind 6 (some .boolean) 0 0 0 0 h [.ref (base + l0), .int l1, .int l2, .int l3, .int l4, .int l5] h (some (.int r)) :=
  ct_of (by decide) (Nat.le_of_ble_eq_true rfl) (fun p e s m below meth c ls C hS hl => t_Merge_isBehind C hM _ _ _ hS hl)
theorem d_Merge_add_0 : decode b_Merge_add 0 = .ok (.aload_n 0, 1) := by decide +kernel
theorem d_Merge_add_1 : decode b_Merge_add 1 = .ok (.getfield 24, 3) := by decide +kernel
theorem d_Merge_add_4 : decode b_Merge_add 4 = .ok (.bipush 36, 2) := by decide +kernel
theorem d_Merge_add_6 : decode b_Merge_add 6 = .ok (.if_icmp .lt 4, 3) := by decide +kernel
theorem d_Merge_add_9 : decode b_Merge_add 9 = .ok (.return_, 1) := by decide +kernel
theorem d_Merge_add_10 : decode b_Merge_add 10 = .ok (.aload_n 0, 1) := by decide +kernel
theorem d_Merge_add_11 : decode b_Merge_add 11 = .ok (.getfield 24, 3) := by decide +kernel
theorem d_Merge_add_14 : decode b_Merge_add 14 = .ok (.istore 5, 2) := by decide +kernel
theorem d_Merge_add_16 : decode b_Merge_add 16 = .ok (.aload_n 0, 1) := by decide +kernel
theorem d_Merge_add_17 : decode b_Merge_add 17 = .ok (.getfield 24, 3) := by decide +kernel
theorem d_Merge_add_20 : decode b_Merge_add 20 = .ok (.istore 6, 2) := by decide +kernel
theorem d_Merge_add_22 : decode b_Merge_add 22 = .ok (.iload 6, 2) := by decide +kernel
theorem d_Merge_add_24 : decode b_Merge_add 24 = .ok (.ifCond .le 95, 3) := by decide +kernel
theorem d_Merge_add_27 : decode b_Merge_add 27 = .ok (.aload_n 0, 1) := by decide +kernel
theorem d_Merge_add_28 : decode b_Merge_add 28 = .ok (.iload 6, 2) := by decide +kernel
theorem d_Merge_add_30 : decode b_Merge_add 30 = .ok (.iconst 1, 1) := by decide +kernel
theorem d_Merge_add_31 : decode b_Merge_add 31 = .ok (.isub, 1) := by decide +kernel
theorem d_Merge_add_32 : decode b_Merge_add 32 = .ok (.iload_n 1, 1) := by decide +kernel
theorem d_Merge_add_33 : decode b_Merge_add 33 = .ok (.iload_n 2, 1) := by decide +kernel
theorem d_Merge_add_34 : decode b_Merge_add 34 = .ok (.iload_n 3, 1) := by decide +kernel
theorem d_Merge_add_35 : decode b_Merge_add 35 = .ok (.iload 4, 2) := by decide +kernel
theorem d_Merge_add_37 : decode b_Merge_add 37 = .ok (.invokevirtual 159, 3) := by decide +kernel
theorem d_Merge_add_40 : decode b_Merge_add 40 = .ok (.ifCond .eq 79, 3) := by decide +kernel
theorem d_Merge_add_43 : decode b_Merge_add 43 = .ok (.aload_n 0, 1) := by decide +kernel
theorem d_Merge_add_44 : decode b_Merge_add 44 = .ok (.getfield 9, 3) := by decide +kernel
theorem d_Merge_add_47 : decode b_Merge_add 47 = .ok (.iload 6, 2) := by decide +kernel
theorem d_Merge_add_49 : decode b_Merge_add 49 = .ok (.aload_n 0, 1) := by decide +kernel
theorem d_Merge_add_50 : decode b_Merge_add 50 = .ok (.getfield 9, 3) := by decide +kernel
theorem d_Merge_add_53 : decode b_Merge_add 53 = .ok (.iload 6, 2) := by decide +kernel
theorem d_Merge_add_55 : decode b_Merge_add 55 = .ok (.iconst 1, 1) := by decide +kernel
theorem d_Merge_add_56 : decode b_Merge_add 56 = .ok (.isub, 1) := by decide +kernel
theorem d_Merge_add_57 : decode b_Merge_add 57 = .ok (.iaload, 1) := by decide +kernel
theorem d_Merge_add_58 : decode b_Merge_add 58 = .ok (.iastore, 1) := by decide +kernel
theorem d_Merge_add_59 : decode b_Merge_add 59 = .ok (.aload_n 0, 1) := by decide +kernel
theorem d_Merge_add_60 : decode b_Merge_add 60 = .ok (.getfield 15, 3) := by decide +kernel
theorem d_Merge_add_63 : decode b_Merge_add 63 = .ok (.iload 6, 2) := by decide +kernel
theorem d_Merge_add_65 : decode b_Merge_add 65 = .ok (.aload_n 0, 1) := by decide +kernel
theorem d_Merge_add_66 : decode b_Merge_add 66 = .ok (.getfield 15, 3) := by decide +kernel
theorem d_Merge_add_69 : decode b_Merge_add 69 = .ok (.iload 6, 2) := by decide +kernel
theorem d_Merge_add_71 : decode b_Merge_add 71 = .ok (.iconst 1, 1) := by decide +kernel
theorem d_Merge_add_72 : decode b_Merge_add 72 = .ok (.isub, 1) := by decide +kernel
theorem d_Merge_add_73 : decode b_Merge_add 73 = .ok (.iaload, 1) := by decide +kernel
theorem d_Merge_add_74 : decode b_Merge_add 74 = .ok (.iastore, 1) := by decide +kernel
theorem d_Merge_add_75 : decode b_Merge_add 75 = .ok (.aload_n 0, 1) := by decide +kernel
theorem d_Merge_add_76 : decode b_Merge_add 76 = .ok (.getfield 18, 3) := by decide +kernel
theorem d_Merge_add_79 : decode b_Merge_add 79 = .ok (.iload 6, 2) := by decide +kernel
theorem d_Merge_add_81 : decode b_Merge_add 81 = .ok (.aload_n 0, 1) := by decide +kernel
theorem d_Merge_add_82 : decode b_Merge_add 82 = .ok (.getfield 18, 3) := by decide +kernel
theorem d_Merge_add_85 : decode b_Merge_add 85 = .ok (.iload 6, 2) := by decide +kernel
theorem d_Merge_add_87 : decode b_Merge_add 87 = .ok (.iconst 1, 1) := by decide +kernel
theorem d_Merge_add_88 : decode b_Merge_add 88 = .ok (.isub, 1) := by decide +kernel
theorem d_Merge_add_89 : decode b_Merge_add 89 = .ok (.iaload, 1) := by decide +kernel
theorem d_Merge_add_90 : decode b_Merge_add 90 = .ok (.iastore, 1) := by decide +kernel
theorem d_Merge_add_91 : decode b_Merge_add 91 = .ok (.aload_n 0, 1) := by decide +kernel
theorem d_Merge_add_92 : decode b_Merge_add 92 = .ok (.getfield 21, 3) := by decide +kernel
theorem d_Merge_add_95 : decode b_Merge_add 95 = .ok (.iload 6, 2) := by decide +kernel
theorem d_Merge_add_97 : decode b_Merge_add 97 = .ok (.aload_n 0, 1) := by decide +kernel
theorem d_Merge_add_98 : decode b_Merge_add 98 = .ok (.getfield 21, 3) := by decide +kernel
theorem d_Merge_add_101 : decode b_Merge_add 101 = .ok (.iload 6, 2) := by decide +kernel
theorem d_Merge_add_103 : decode b_Merge_add 103 = .ok (.iconst 1, 1) := by decide +kernel
theorem d_Merge_add_104 : decode b_Merge_add 104 = .ok (.isub, 1) := by decide +kernel
theorem d_Merge_add_105 : decode b_Merge_add 105 = .ok (.iaload, 1) := by decide +kernel
theorem d_Merge_add_106 : decode b_Merge_add 106 = .ok (.iastore, 1) := by decide +kernel
theorem d_Merge_add_107 : decode b_Merge_add 107 = .ok (.iload 6, 2) := by decide +kernel
theorem d_Merge_add_109 : decode b_Merge_add 109 = .ok (.iconst 1, 1) := by decide +kernel
theorem d_Merge_add_110 : decode b_Merge_add 110 = .ok (.isub, 1) := by decide +kernel
theorem d_Merge_add_111 : decode b_Merge_add 111 = .ok (.istore 5, 2) := by decide +kernel
theorem d_Merge_add_113 : decode b_Merge_add 113 = .ok (.iinc 6 (-1), 3) := by decide +kernel
theorem d_Merge_add_116 : decode b_Merge_add 116 = .ok (.goto (-94), 3) := by decide +kernel
theorem d_Merge_add_119 : decode b_Merge_add 119 = .ok (.aload_n 0, 1) := by decide +kernel
theorem d_Merge_add_120 : decode b_Merge_add 120 = .ok (.getfield 9, 3) := by decide +kernel
theorem d_Merge_add_123 : decode b_Merge_add 123 = .ok (.iload 5, 2) := by decide +kernel
theorem d_Merge_add_125 : decode b_Merge_add 125 = .ok (.iload_n 1, 1) := by decide +kernel
theorem d_Merge_add_126 : decode b_Merge_add 126 = .ok (.iastore, 1) := by decide +kernel
theorem d_Merge_add_127 : decode b_Merge_add 127 = .ok (.aload_n 0, 1) := by decide +kernel
theorem d_Merge_add_128 : decode b_Merge_add 128 = .ok (.getfield 15, 3) := by decide +kernel
theorem d_Merge_add_131 : decode b_Merge_add 131 = .ok (.iload 5, 2) := by decide +kernel
theorem d_Merge_add_133 : decode b_Merge_add 133 = .ok (.iload_n 2, 1) := by decide +kernel
theorem d_Merge_add_134 : decode b_Merge_add 134 = .ok (.iastore, 1) := by decide +kernel
theorem d_Merge_add_135 : decode b_Merge_add 135 = .ok (.aload_n 0, 1) := by decide +kernel
theorem d_Merge_add_136 : decode b_Merge_add 136 = .ok (.getfield 18, 3) := by decide +kernel
theorem d_Merge_add_139 : decode b_Merge_add 139 = .ok (.iload 5, 2) := by decide +kernel
theorem d_Merge_add_141 : decode b_Merge_add 141 = .ok (.iload_n 3, 1) := by decide +kernel
theorem d_Merge_add_142 : decode b_Merge_add 142 = .ok (.iastore, 1) := by decide +kernel
theorem d_Merge_add_143 : decode b_Merge_add 143 = .ok (.aload_n 0, 1) := by decide +kernel
theorem d_Merge_add_144 : decode b_Merge_add 144 = .ok (.getfield 21, 3) := by decide +kernel
theorem d_Merge_add_147 : decode b_Merge_add 147 = .ok (.iload 5, 2) := by decide +kernel
theorem d_Merge_add_149 : decode b_Merge_add 149 = .ok (.iload 4, 2) := by decide +kernel
theorem d_Merge_add_151 : decode b_Merge_add 151 = .ok (.iastore, 1) := by decide +kernel
theorem d_Merge_add_152 : decode b_Merge_add 152 = .ok (.aload_n 0, 1) := by decide +kernel
theorem d_Merge_add_153 : decode b_Merge_add 153 = .ok (.dup, 1) := by decide +kernel
theorem d_Merge_add_154 : decode b_Merge_add 154 = .ok (.getfield 24, 3) := by decide +kernel
theorem d_Merge_add_157 : decode b_Merge_add 157 = .ok (.iconst 1, 1) := by decide +kernel
theorem d_Merge_add_158 : decode b_Merge_add 158 = .ok (.iadd, 1) := by decide +kernel
theorem d_Merge_add_159 : decode b_Merge_add 159 = .ok (.putfield 24, 3) := by decide +kernel
theorem d_Merge_add_162 : decode b_Merge_add 162 = .ok (.return_, 1) := by decide +kernel
def f_Merge_add_119 (h : Hp) (l0 : Nat) (l1 : Int32) (l2 : Int32) (l3 : Int32) (l4 : Int32) (l5 : Int32) : Option Hp :=
  (gR h 2 l0 0).bind fun t4 =>
  (sA h t4 l5 l1).bind fun h5 =>
  (gR h5 2 l0 1).bind fun t6 =>
  (sA h5 t6 l5 l2).bind fun h7 =>
  (gR h7 2 l0 2).bind fun t8 =>
  (sA h7 t8 l5 l3).bind fun h9 =>
  (gR h9 2 l0 3).bind fun t10 =>
  (sA h9 t10 l5 l4).bind fun h11 =>
  (gI h11 2 l0 4).bind fun t12 =>
  (sI h11 2 l0 4 (t12 + (1 : Int32))).bind fun h13 =>
  some h13
set_option maxHeartbeats 4000000 in
set_option maxRecDepth 100000 in
theorem t_Merge_add_119 {h : Hp} {l0 : Nat} {l1 : Int32} {l2 : Int32} {l3 : Int32} {l4 : Int32} {l5 : Int32} {r : Hp} (C : Cx base D cI cZ b_Merge_add 7 "MovedFolders$Merge" "add" none p s m args meth c)  (hM : f_Merge_add_119 h l0 l1 l2 l3 l4 l5 = some r) (H : Heap) (locs : List Loc) (ls : Array Slot) (hS : RS base D cI cZ s H locs h) (hl : lv_has ls 7 [(0, .ref (base + l0)), (1, .int l1), (2, .int l2), (3, .int l3), (4, .int l4), (5, .int l5)]) : Wg l base D cI cZ 1 25 0 0 r none p e s m args below meth c H locs 0 0 (F0 m 119 ls []) := by
  have hx := C.1
  have hb := C.2.1
  unfold f_Merge_add_119 at hM
  refine lv_aload_n hx hb d_Merge_add_119 rfl (lv_at hl 0 rfl) ?_
  obtain ⟨t4, et4, hM⟩ := bS hM
  refine r_getR C hS fl_Merge_9 et4 d_Merge_add_120 ?_
  refine lv_iload hx hb d_Merge_add_123 (lv_at hl 5 rfl) ?_
  refine lv_iload_n hx hb d_Merge_add_125 rfl (lv_at hl 1 rfl) ?_
  obtain ⟨h5, eh5, hM⟩ := bS hM
  refine r_iast C hS eh5 d_Merge_add_126 (fun H locs hS => ?_)
  refine lv_aload_n hx hb d_Merge_add_127 rfl (lv_at hl 0 rfl) ?_
  obtain ⟨t6, et6, hM⟩ := bS hM
  refine r_getR C hS fl_Merge_15 et6 d_Merge_add_128 ?_
  refine lv_iload hx hb d_Merge_add_131 (lv_at hl 5 rfl) ?_
  refine lv_iload_n hx hb d_Merge_add_133 rfl (lv_at hl 2 rfl) ?_
  obtain ⟨h7, eh7, hM⟩ := bS hM
  refine r_iast C hS eh7 d_Merge_add_134 (fun H locs hS => ?_)
  refine lv_aload_n hx hb d_Merge_add_135 rfl (lv_at hl 0 rfl) ?_
  obtain ⟨t8, et8, hM⟩ := bS hM
  refine r_getR C hS fl_Merge_18 et8 d_Merge_add_136 ?_
  refine lv_iload hx hb d_Merge_add_139 (lv_at hl 5 rfl) ?_
  refine lv_iload_n hx hb d_Merge_add_141 rfl (lv_at hl 3 rfl) ?_
  obtain ⟨h9, eh9, hM⟩ := bS hM
  refine r_iast C hS eh9 d_Merge_add_142 (fun H locs hS => ?_)
  refine lv_aload_n hx hb d_Merge_add_143 rfl (lv_at hl 0 rfl) ?_
  obtain ⟨t10, et10, hM⟩ := bS hM
  refine r_getR C hS fl_Merge_21 et10 d_Merge_add_144 ?_
  refine lv_iload hx hb d_Merge_add_147 (lv_at hl 5 rfl) ?_
  refine lv_iload hx hb d_Merge_add_149 (lv_at hl 4 rfl) ?_
  obtain ⟨h11, eh11, hM⟩ := bS hM
  refine r_iast C hS eh11 d_Merge_add_151 (fun H locs hS => ?_)
  refine lv_aload_n hx hb d_Merge_add_152 rfl (lv_at hl 0 rfl) ?_
  refine lv_dup hx hb d_Merge_add_153 rfl ?_
  obtain ⟨t12, et12, hM⟩ := bS hM
  refine r_getI C hS fl_Merge_24 et12 d_Merge_add_154 ?_
  refine lv_iconst (v := (1 : Int32)) hx hb d_Merge_add_157 (by decide) ?_
  refine lv_iadd hx hb d_Merge_add_158 ?_
  obtain ⟨h13, eh13, hM⟩ := bS hM
  refine r_putI C hS fp_Merge_24 eh13 d_Merge_add_159 (fun H locs hS => ?_)
  obtain rfl := Option.some.inj hM
  exact r_vret C hS d_Merge_add_162
def f_Merge_add_22 (l0 : Nat) (l1 : Int32) (l2 : Int32) (l3 : Int32) (l4 : Int32) : Nat → Int32 → Int32 → Hp → Option Hp
  | 0, _, _, _ => none
  | n + 1, l5, l6, h =>
    if l6 ≤ (0 : Int32) then (
      f_Merge_add_119 h l0 l1 l2 l3 l4 l5
    ) else (
      (f_Merge_isBehind h l0 (l6 - (1 : Int32)) l1 l2 l3 l4).bind fun t14 =>
      if t14 = (0 : Int32) then (
        f_Merge_add_119 h l0 l1 l2 l3 l4 l5
      ) else (
        (gR h 2 l0 0).bind fun t15 =>
        (gR h 2 l0 0).bind fun t16 =>
        (gA h false t16 (l6 - (1 : Int32))).bind fun t17 =>
        (sA h t15 l6 t17).bind fun h18 =>
        (gR h18 2 l0 1).bind fun t19 =>
        (gR h18 2 l0 1).bind fun t20 =>
        (gA h18 false t20 (l6 - (1 : Int32))).bind fun t21 =>
        (sA h18 t19 l6 t21).bind fun h22 =>
        (gR h22 2 l0 2).bind fun t23 =>
        (gR h22 2 l0 2).bind fun t24 =>
        (gA h22 false t24 (l6 - (1 : Int32))).bind fun t25 =>
        (sA h22 t23 l6 t25).bind fun h26 =>
        (gR h26 2 l0 3).bind fun t27 =>
        (gR h26 2 l0 3).bind fun t28 =>
        (gA h26 false t28 (l6 - (1 : Int32))).bind fun t29 =>
        (sA h26 t27 l6 t29).bind fun h30 =>
        f_Merge_add_22 l0 l1 l2 l3 l4 n (l6 - (1 : Int32)) (l6 + (-1 : Int32)) h30
      )
    )
set_option maxHeartbeats 4000000 in
set_option maxRecDepth 100000 in
theorem t_Merge_add_22 {l0 : Nat} {l1 : Int32} {l2 : Int32} {l3 : Int32} {l4 : Int32} {r : Hp} (C : Cx base D cI cZ b_Merge_add 7 "MovedFolders$Merge" "add" none p s m args meth c)  : ∀ (n : Nat) (l5 : Int32) (l6 : Int32) (h : Hp), f_Merge_add_22 l0 l1 l2 l3 l4 n l5 l6 h = some r → ∀ (H : Heap) (locs : List Loc) (ls : Array Slot), RS base D cI cZ s H locs h → lv_has ls 7 [(0, .ref (base + l0)), (1, .int l1), (2, .int l2), (3, .int l3), (4, .int l4), (5, .int l5), (6, .int l6)] → Wg l base D cI cZ 1 25 0 0 r none p e s m args below meth c H locs 0 0 (F0 m 22 ls []) := by
  have hx := C.1
  have hb := C.2.1
  intro n
  induction n with
  | zero =>
    intro l5 l6 h hM
    rw [f_Merge_add_22] at hM
    cases hM
  | succ n ih =>
    intro l5 l6 h hM H locs ls hS hl
    rw [f_Merge_add_22] at hM
    refine lv_iload hx hb d_Merge_add_22 (lv_at hl 6 rfl) ?_
    refine lv_if_le (tgt := 119) hx hb d_Merge_add_24 (by decide) (fun c24_2 => ?_) (fun c24_2 => ?_)
    · rw [if_pos c24_2] at hM
      exact t_Merge_add_119  C  hM _ _ _ hS (lv_sub hl [0, 1, 2, 3, 4, 5] rfl)
    · rw [if_neg c24_2] at hM
      refine lv_aload_n hx hb d_Merge_add_27 rfl (lv_at hl 0 rfl) ?_
      refine lv_iload hx hb d_Merge_add_28 (lv_at hl 6 rfl) ?_
      refine lv_iconst (v := (1 : Int32)) hx hb d_Merge_add_30 (by decide) ?_
      refine lv_isub hx hb d_Merge_add_31 ?_
      refine lv_iload_n hx hb d_Merge_add_32 rfl (lv_at hl 1 rfl) ?_
      refine lv_iload_n hx hb d_Merge_add_33 rfl (lv_at hl 2 rfl) ?_
      refine lv_iload_n hx hb d_Merge_add_34 rfl (lv_at hl 3 rfl) ?_
      refine lv_iload hx hb d_Merge_add_35 (lv_at hl 4 rfl) ?_
      obtain ⟨t14, et14, hM⟩ := bS hM
      refine r_callVi (x := t14) C hS cv_Merge_159 (c_Merge_isBehind l base D cI cZ h l0 (l6 - (1 : Int32)) l1 l2 l3 l4 et14) (o_Merge_isBehind et14) (rest := []) rfl hl.1 rfl (Nat.le_of_ble_eq_true rfl) ⟨(Nat.le_of_ble_eq_true rfl), (Nat.le_of_ble_eq_true rfl)⟩ ⟨(Nat.le_of_ble_eq_true rfl), (Nat.le_of_ble_eq_true rfl)⟩ d_Merge_add_37 (fun H locs hS => ?_)
      refine lv_if_eq (tgt := 119) hx hb d_Merge_add_40 (by decide) (fun c40_3 => ?_) (fun c40_3 => ?_)
      · rw [if_pos c40_3] at hM
        exact t_Merge_add_119  C  hM _ _ _ hS (lv_sub hl [0, 1, 2, 3, 4, 5] rfl)
      · rw [if_neg c40_3] at hM
        refine lv_aload_n hx hb d_Merge_add_43 rfl (lv_at hl 0 rfl) ?_
        obtain ⟨t15, et15, hM⟩ := bS hM
        refine r_getR C hS fl_Merge_9 et15 d_Merge_add_44 ?_
        refine lv_iload hx hb d_Merge_add_47 (lv_at hl 6 rfl) ?_
        refine lv_aload_n hx hb d_Merge_add_49 rfl (lv_at hl 0 rfl) ?_
        obtain ⟨t16, et16, hM⟩ := bS hM
        refine r_getR C hS fl_Merge_9 et16 d_Merge_add_50 ?_
        refine lv_iload hx hb d_Merge_add_53 (lv_at hl 6 rfl) ?_
        refine lv_iconst (v := (1 : Int32)) hx hb d_Merge_add_55 (by decide) ?_
        refine lv_isub hx hb d_Merge_add_56 ?_
        obtain ⟨t17, et17, hM⟩ := bS hM
        refine r_iald C hS et17 d_Merge_add_57 ?_
        obtain ⟨h18, eh18, hM⟩ := bS hM
        refine r_iast C hS eh18 d_Merge_add_58 (fun H locs hS => ?_)
        refine lv_aload_n hx hb d_Merge_add_59 rfl (lv_at hl 0 rfl) ?_
        obtain ⟨t19, et19, hM⟩ := bS hM
        refine r_getR C hS fl_Merge_15 et19 d_Merge_add_60 ?_
        refine lv_iload hx hb d_Merge_add_63 (lv_at hl 6 rfl) ?_
        refine lv_aload_n hx hb d_Merge_add_65 rfl (lv_at hl 0 rfl) ?_
        obtain ⟨t20, et20, hM⟩ := bS hM
        refine r_getR C hS fl_Merge_15 et20 d_Merge_add_66 ?_
        refine lv_iload hx hb d_Merge_add_69 (lv_at hl 6 rfl) ?_
        refine lv_iconst (v := (1 : Int32)) hx hb d_Merge_add_71 (by decide) ?_
        refine lv_isub hx hb d_Merge_add_72 ?_
        obtain ⟨t21, et21, hM⟩ := bS hM
        refine r_iald C hS et21 d_Merge_add_73 ?_
        obtain ⟨h22, eh22, hM⟩ := bS hM
        refine r_iast C hS eh22 d_Merge_add_74 (fun H locs hS => ?_)
        refine lv_aload_n hx hb d_Merge_add_75 rfl (lv_at hl 0 rfl) ?_
        obtain ⟨t23, et23, hM⟩ := bS hM
        refine r_getR C hS fl_Merge_18 et23 d_Merge_add_76 ?_
        refine lv_iload hx hb d_Merge_add_79 (lv_at hl 6 rfl) ?_
        refine lv_aload_n hx hb d_Merge_add_81 rfl (lv_at hl 0 rfl) ?_
        obtain ⟨t24, et24, hM⟩ := bS hM
        refine r_getR C hS fl_Merge_18 et24 d_Merge_add_82 ?_
        refine lv_iload hx hb d_Merge_add_85 (lv_at hl 6 rfl) ?_
        refine lv_iconst (v := (1 : Int32)) hx hb d_Merge_add_87 (by decide) ?_
        refine lv_isub hx hb d_Merge_add_88 ?_
        obtain ⟨t25, et25, hM⟩ := bS hM
        refine r_iald C hS et25 d_Merge_add_89 ?_
        obtain ⟨h26, eh26, hM⟩ := bS hM
        refine r_iast C hS eh26 d_Merge_add_90 (fun H locs hS => ?_)
        refine lv_aload_n hx hb d_Merge_add_91 rfl (lv_at hl 0 rfl) ?_
        obtain ⟨t27, et27, hM⟩ := bS hM
        refine r_getR C hS fl_Merge_21 et27 d_Merge_add_92 ?_
        refine lv_iload hx hb d_Merge_add_95 (lv_at hl 6 rfl) ?_
        refine lv_aload_n hx hb d_Merge_add_97 rfl (lv_at hl 0 rfl) ?_
        obtain ⟨t28, et28, hM⟩ := bS hM
        refine r_getR C hS fl_Merge_21 et28 d_Merge_add_98 ?_
        refine lv_iload hx hb d_Merge_add_101 (lv_at hl 6 rfl) ?_
        refine lv_iconst (v := (1 : Int32)) hx hb d_Merge_add_103 (by decide) ?_
        refine lv_isub hx hb d_Merge_add_104 ?_
        obtain ⟨t29, et29, hM⟩ := bS hM
        refine r_iald C hS et29 d_Merge_add_105 ?_
        obtain ⟨h30, eh30, hM⟩ := bS hM
        refine r_iast C hS eh30 d_Merge_add_106 (fun H locs hS => ?_)
        refine lv_iload hx hb d_Merge_add_107 (lv_at hl 6 rfl) ?_
        refine lv_iconst (v := (1 : Int32)) hx hb d_Merge_add_109 (by decide) ?_
        refine lv_isub hx hb d_Merge_add_110 ?_
        refine lv_istore (lv' := [(5, .int (l6 - (1 : Int32))), (0, .ref (base + l0)), (1, .int l1), (2, .int l2), (3, .int l3), (4, .int l4), (6, .int l6)]) hx hb d_Merge_add_111 hl (by decide) rfl (fun ls hl => ?_)
        refine lv_iinc (v := (l6 + (-1 : Int32))) (lv' := [(6, .int (l6 + (-1 : Int32))), (5, .int (l6 - (1 : Int32))), (0, .ref (base + l0)), (1, .int l1), (2, .int l2), (3, .int l3), (4, .int l4)]) hx hb d_Merge_add_113 hl (k := 6) rfl (by rw [oi_m1]) (by decide) rfl (fun ls hl => ?_)
        refine lv_goto (tgt := 22) hx hb d_Merge_add_116 (by decide) ?_
        exact ih (l6 - (1 : Int32)) (l6 + (-1 : Int32)) h30 hM _ _ _ hS (lv_sub hl [2, 3, 4, 5, 6, 1, 0] rfl)
def f_Merge_add (h : Hp) (l0 : Nat) (l1 : Int32) (l2 : Int32) (l3 : Int32) (l4 : Int32) : Option Hp :=
  ck h 2 l0 (
    (gI h 2 l0 4).bind fun t1 =>
    if t1 < (36 : Int32) then (
      (gI h 2 l0 4).bind fun t2 =>
      (gI h 2 l0 4).bind fun t3 =>
      f_Merge_add_22 l0 l1 l2 l3 l4 FU t2 t3 h
    ) else (
      some h
    )
  )
theorem o_Merge_add {h : Hp} {l0 : Nat} {l1 : Int32} {l2 : Int32} {l3 : Int32} {l4 : Int32} {r : Hp} (hM : f_Merge_add h l0 l1 l2 l3 l4 = some r) : isO h 2 l0 = true := by
  unfold f_Merge_add at hM
  exact (ck_some hM).1
set_option maxHeartbeats 4000000 in
set_option maxRecDepth 100000 in
theorem t_Merge_add {h : Hp} {l0 : Nat} {l1 : Int32} {l2 : Int32} {l3 : Int32} {l4 : Int32} {r : Hp} (C : Cx base D cI cZ b_Merge_add 7 "MovedFolders$Merge" "add" none p s m args meth c) (hM : f_Merge_add h l0 l1 l2 l3 l4 = some r) (H : Heap) (locs : List Loc) (ls : Array Slot) (hS : RS base D cI cZ s H locs h) (hl : lv_has ls 7 [(0, .ref (base + l0)), (1, .int l1), (2, .int l2), (3, .int l3), (4, .int l4)]) : Wg l base D cI cZ 1 25 0 0 r none p e s m args below meth c H locs 0 0 (F0 m 0 ls []) := by
  have hx := C.1
  have hb := C.2.1
  unfold f_Merge_add at hM
  replace hM := (ck_some hM).2
  refine lv_aload_n hx hb d_Merge_add_0 rfl (lv_at hl 0 rfl) ?_
  obtain ⟨t1, et1, hM⟩ := bS hM
  refine r_getI C hS fl_Merge_24 et1 d_Merge_add_1 ?_
  refine lv_bipush (v := (36 : Int32)) hx hb d_Merge_add_4 (by decide) ?_
  refine lv_icmp_lt (tgt := 10) hx hb d_Merge_add_6 (by decide) (fun c6_1 => ?_) (fun c6_1 => ?_)
  · rw [if_pos c6_1] at hM
    refine lv_aload_n hx hb d_Merge_add_10 rfl (lv_at hl 0 rfl) ?_
    obtain ⟨t2, et2, hM⟩ := bS hM
    refine r_getI C hS fl_Merge_24 et2 d_Merge_add_11 ?_
    refine lv_istore (lv' := [(5, .int t2), (0, .ref (base + l0)), (1, .int l1), (2, .int l2), (3, .int l3), (4, .int l4)]) hx hb d_Merge_add_14 hl (by decide) rfl (fun ls hl => ?_)
    refine lv_aload_n hx hb d_Merge_add_16 rfl (lv_at hl 1 rfl) ?_
    obtain ⟨t3, et3, hM⟩ := bS hM
    refine r_getI C hS fl_Merge_24 et3 d_Merge_add_17 ?_
    refine lv_istore (lv' := [(6, .int t3), (5, .int t2), (0, .ref (base + l0)), (1, .int l1), (2, .int l2), (3, .int l3), (4, .int l4)]) hx hb d_Merge_add_20 hl (by decide) rfl (fun ls hl => ?_)
    exact t_Merge_add_22  C  FU t2 t3 h hM _ _ _ hS (lv_sub hl [2, 3, 4, 5, 6, 1, 0] rfl)
  · rw [if_neg c6_1] at hM
    obtain rfl := Option.some.inj hM
    exact r_vret C hS d_Merge_add_9
theorem c_Merge_add (l : Launch) (base : Nat) (D : va_G) (cI cZ : ClassId) (h : Hp) (l0 : Nat) (l1 : Int32) (l2 : Int32) (l3 : Int32) (l4 : Int32) {r : Hp} (hM : f_Merge_add h l0 l1 l2 l3 l4 = some r) : Ct l base D cI cZ y_Merge_add b_Merge_add 7 none 1 25 0 0 h [.ref (base + l0), .int l1, .int l2, .int l3, .int l4] r none :=
  ct_of (by decide) (Nat.le_of_ble_eq_true rfl) (fun p e s m below meth c ls C hS hl => t_Merge_add C hM _ _ _ hS hl)
end MM1
