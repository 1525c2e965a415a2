section MM0
variable {l : Launch} {base : Nat} {D : va_G} {cI cZ : ClassId} {p : Program} {e : Env} {s : State} {m : MethodId} {args : Array Value} {below : List Frame} {meth : Method} {c : Code}
theorem d_Tree_init_0 : decode b_Tree_init 0 = .ok (.aload_n 0, 1) := by decide +kernel
theorem d_Tree_init_1 : decode b_Tree_init 1 = .ok (.invokespecial 3, 3) := by decide +kernel
theorem d_Tree_init_4 : decode b_Tree_init 4 = .ok (.aload_n 0, 1) := by decide +kernel
theorem d_Tree_init_5 : decode b_Tree_init 5 = .ok (.bipush 12, 2) := by decide +kernel
theorem d_Tree_init_7 : decode b_Tree_init 7 = .ok (.newarray .int, 2) := by decide +kernel
theorem d_Tree_init_9 : decode b_Tree_init 9 = .ok (.putfield 9, 3) := by decide +kernel
theorem d_Tree_init_12 : decode b_Tree_init 12 = .ok (.aload_n 0, 1) := by decide +kernel
theorem d_Tree_init_13 : decode b_Tree_init 13 = .ok (.bipush 12, 2) := by decide +kernel
theorem d_Tree_init_15 : decode b_Tree_init 15 = .ok (.newarray .int, 2) := by decide +kernel
theorem d_Tree_init_17 : decode b_Tree_init 17 = .ok (.putfield 15, 3) := by decide +kernel
theorem d_Tree_init_20 : decode b_Tree_init 20 = .ok (.aload_n 0, 1) := by decide +kernel
theorem d_Tree_init_21 : decode b_Tree_init 21 = .ok (.iconst 0, 1) := by decide +kernel
theorem d_Tree_init_22 : decode b_Tree_init 22 = .ok (.putfield 18, 3) := by decide +kernel
theorem d_Tree_init_25 : decode b_Tree_init 25 = .ok (.return_, 1) := by decide +kernel
def f_Tree_init (h : Hp) (l0 : Nat) : Option Hp :=
  ck h 7 l0 (
    (sR (h ++ [.inl (false, 12, fun _ => 0)]) 7 l0 0 h.length).bind fun h1 =>
    (sR (h1 ++ [.inl (false, 12, fun _ => 0)]) 7 l0 1 h1.length).bind fun h2 =>
    (sI h2 7 l0 2 (0 : Int32)).bind fun h3 =>
    some h3
  )
theorem o_Tree_init {h : Hp} {l0 : Nat} {r : Hp} (hM : f_Tree_init h l0 = some r) : isO h 7 l0 = true := by
  unfold f_Tree_init at hM
  exact (ck_some hM).1
set_option maxHeartbeats 4000000 in
set_option maxRecDepth 100000 in
theorem t_Tree_init {h : Hp} {l0 : Nat} {r : Hp} (C : Cx base D cI cZ b_Tree_init 1 "MovedFolders$Tree" "<init>" none p s m args meth c) (hM : f_Tree_init h l0 = some r) (H : Heap) (locs : List Loc) (ls : Array Slot) (hS : RS base D cI cZ s H locs h) (hl : lv_has ls 1 [(0, .ref (base + l0))]) : Wg l base D cI cZ 1 12 2 24 r none p e s m args below meth c H locs 0 0 (F0 m 0 ls []) := by
  have hx := C.1
  have hb := C.2.1
  unfold f_Tree_init at hM
  replace hM := (ck_some hM).2
  refine lv_aload_n hx hb d_Tree_init_0 rfl (lv_at hl 0 rfl) ?_
  refine r_obj C oi_Tree_3 hl.1 rfl ⟨(Nat.le_of_ble_eq_true rfl), (Nat.le_of_ble_eq_true rfl)⟩ d_Tree_init_1 ?_
  refine lv_aload_n hx hb d_Tree_init_4 rfl (lv_at hl 0 rfl) ?_
  refine lv_bipush (v := (12 : Int32)) hx hb d_Tree_init_5 (by decide) ?_
  refine r_newI (N := 12) C hS ac_int (by decide) (by decide) (Nat.le_of_ble_eq_true rfl) (Nat.le_of_ble_eq_true rfl) (Nat.le_of_ble_eq_true rfl) d_Tree_init_7 (fun H hS => ?_)
  obtain ⟨h1, eh1, hM⟩ := bS hM
  refine r_putF C hS fp_Tree_9 (fun q hq => by cases hq; rfl) eh1 rfl rfl d_Tree_init_9 (fun H locs hS => ?_)
  refine lv_aload_n hx hb d_Tree_init_12 rfl (lv_at hl 0 rfl) ?_
  refine lv_bipush (v := (12 : Int32)) hx hb d_Tree_init_13 (by decide) ?_
  refine r_newI (N := 12) C hS ac_int (by decide) (by decide) (Nat.le_of_ble_eq_true rfl) (Nat.le_of_ble_eq_true rfl) (Nat.le_of_ble_eq_true rfl) d_Tree_init_15 (fun H hS => ?_)
  obtain ⟨h2, eh2, hM⟩ := bS hM
  refine r_putF C hS fp_Tree_15 (fun q hq => by cases hq; rfl) eh2 rfl rfl d_Tree_init_17 (fun H locs hS => ?_)
  refine lv_aload_n hx hb d_Tree_init_20 rfl (lv_at hl 0 rfl) ?_
  refine lv_iconst (v := (0 : Int32)) hx hb d_Tree_init_21 (by decide) ?_
  obtain ⟨h3, eh3, hM⟩ := bS hM
  refine r_putI C hS fp_Tree_18 eh3 d_Tree_init_22 (fun H locs hS => ?_)
  obtain rfl := Option.some.inj hM
  exact r_vret C hS d_Tree_init_25
theorem c_Tree_init (l : Launch) (base : Nat) (D : va_G) (cI cZ : ClassId) (h : Hp) (l0 : Nat) {r : Hp} (hM : f_Tree_init h l0 = some r) : Ct l base D cI cZ y_Tree_init b_Tree_init 1 none 1 12 2 24 h [.ref (base + l0)] r none :=
  ct_of (by decide) (Nat.le_of_ble_eq_true rfl) (fun p e s m below meth c ls C hS hl => t_Tree_init C hM _ _ _ hS hl)
theorem d_Held_init_0 : decode b_Held_init 0 = .ok (.aload_n 0, 1) := by decide +kernel
theorem d_Held_init_1 : decode b_Held_init 1 = .ok (.invokespecial 3, 3) := by decide +kernel
theorem d_Held_init_4 : decode b_Held_init 4 = .ok (.aload_n 0, 1) := by decide +kernel
theorem d_Held_init_5 : decode b_Held_init 5 = .ok (.new 9, 3) := by decide +kernel
theorem d_Held_init_8 : decode b_Held_init 8 = .ok (.dup, 1) := by decide +kernel
theorem d_Held_init_9 : decode b_Held_init 9 = .ok (.invokespecial 11, 3) := by decide +kernel
theorem d_Held_init_12 : decode b_Held_init 12 = .ok (.putfield 12, 3) := by decide +kernel
theorem d_Held_init_15 : decode b_Held_init 15 = .ok (.aload_n 0, 1) := by decide +kernel
theorem d_Held_init_16 : decode b_Held_init 16 = .ok (.new 9, 3) := by decide +kernel
theorem d_Held_init_19 : decode b_Held_init 19 = .ok (.dup, 1) := by decide +kernel
theorem d_Held_init_20 : decode b_Held_init 20 = .ok (.invokespecial 11, 3) := by decide +kernel
theorem d_Held_init_23 : decode b_Held_init 23 = .ok (.putfield 18, 3) := by decide +kernel
theorem d_Held_init_26 : decode b_Held_init 26 = .ok (.aload_n 0, 1) := by decide +kernel
theorem d_Held_init_27 : decode b_Held_init 27 = .ok (.new 9, 3) := by decide +kernel
theorem d_Held_init_30 : decode b_Held_init 30 = .ok (.dup, 1) := by decide +kernel
theorem d_Held_init_31 : decode b_Held_init 31 = .ok (.invokespecial 11, 3) := by decide +kernel
theorem d_Held_init_34 : decode b_Held_init 34 = .ok (.putfield 21, 3) := by decide +kernel
theorem d_Held_init_37 : decode b_Held_init 37 = .ok (.aload_n 0, 1) := by decide +kernel
theorem d_Held_init_38 : decode b_Held_init 38 = .ok (.bipush 50, 2) := by decide +kernel
theorem d_Held_init_40 : decode b_Held_init 40 = .ok (.putfield 24, 3) := by decide +kernel
theorem d_Held_init_43 : decode b_Held_init 43 = .ok (.return_, 1) := by decide +kernel
def f_Held_init (h : Hp) (l0 : Nat) : Option Hp :=
  ck h 0 l0 (
    (f_Tree_init (h ++ [.inr (7, [.null, .null, .int 0])]) h.length).bind fun h1 =>
    (sR h1 0 l0 0 h.length).bind fun h2 =>
    (f_Tree_init (h2 ++ [.inr (7, [.null, .null, .int 0])]) h2.length).bind fun h3 =>
    (sR h3 0 l0 1 h2.length).bind fun h4 =>
    (f_Tree_init (h4 ++ [.inr (7, [.null, .null, .int 0])]) h4.length).bind fun h5 =>
    (sR h5 0 l0 2 h4.length).bind fun h6 =>
    (sI h6 0 l0 3 (50 : Int32)).bind fun h7 =>
    some h7
  )
theorem o_Held_init {h : Hp} {l0 : Nat} {r : Hp} (hM : f_Held_init h l0 = some r) : isO h 0 l0 = true := by
  unfold f_Held_init at hM
  exact (ck_some hM).1
set_option maxHeartbeats 4000000 in
set_option maxRecDepth 100000 in
theorem t_Held_init {h : Hp} {l0 : Nat} {r : Hp} (C : Cx base D cI cZ b_Held_init 1 "MovedFolders$Held" "<init>" none p s m args meth c) (hM : f_Held_init h l0 = some r) (H : Heap) (locs : List Loc) (ls : Array Slot) (hS : RS base D cI cZ s H locs h) (hl : lv_has ls 1 [(0, .ref (base + l0))]) : Wg l base D cI cZ 2 32 9 81 r none p e s m args below meth c H locs 0 0 (F0 m 0 ls []) := by
  have hx := C.1
  have hb := C.2.1
  unfold f_Held_init at hM
  replace hM := (ck_some hM).2
  refine lv_aload_n hx hb d_Held_init_0 rfl (lv_at hl 0 rfl) ?_
  refine r_obj C oi_Held_3 hl.1 rfl ⟨(Nat.le_of_ble_eq_true rfl), (Nat.le_of_ble_eq_true rfl)⟩ d_Held_init_1 ?_
  refine lv_aload_n hx hb d_Held_init_4 rfl (lv_at hl 0 rfl) ?_
  refine r_new C hS nw_Held_9 (Nat.le_of_ble_eq_true rfl) (Nat.le_of_ble_eq_true rfl) d_Held_init_5 (fun H hS => ?_)
  refine lv_dup hx hb d_Held_init_8 rfl ?_
  obtain ⟨h1, eh1, hM⟩ := bS hM
  refine r_callN C hS cn_Held_11 (c_Tree_init l base D cI cZ (h ++ [.inr (7, [.null, .null, .int 0])]) h.length eh1) (rest := [.ref (base + h.length), .ref (base + l0)]) rfl hl.1 rfl (Nat.le_of_ble_eq_true rfl) ⟨(Nat.le_of_ble_eq_true rfl), (Nat.le_of_ble_eq_true rfl)⟩ ⟨(Nat.le_of_ble_eq_true rfl), (Nat.le_of_ble_eq_true rfl)⟩ d_Held_init_9 (fun H locs hS => ?_)
  obtain ⟨h2, eh2, hM⟩ := bS hM
  refine r_putF C hS fp_Held_12 (fun q hq => by cases hq; rfl) eh2 rfl rfl d_Held_init_12 (fun H locs hS => ?_)
  refine lv_aload_n hx hb d_Held_init_15 rfl (lv_at hl 0 rfl) ?_
  refine r_new C hS nw_Held_9 (Nat.le_of_ble_eq_true rfl) (Nat.le_of_ble_eq_true rfl) d_Held_init_16 (fun H hS => ?_)
  refine lv_dup hx hb d_Held_init_19 rfl ?_
  obtain ⟨h3, eh3, hM⟩ := bS hM
  refine r_callN C hS cn_Held_11 (c_Tree_init l base D cI cZ (h2 ++ [.inr (7, [.null, .null, .int 0])]) h2.length eh3) (rest := [.ref (base + h2.length), .ref (base + l0)]) rfl hl.1 rfl (Nat.le_of_ble_eq_true rfl) ⟨(Nat.le_of_ble_eq_true rfl), (Nat.le_of_ble_eq_true rfl)⟩ ⟨(Nat.le_of_ble_eq_true rfl), (Nat.le_of_ble_eq_true rfl)⟩ d_Held_init_20 (fun H locs hS => ?_)
  obtain ⟨h4, eh4, hM⟩ := bS hM
  refine r_putR C hS fp_Held_18 eh4 rfl rfl d_Held_init_23 (fun H locs hS => ?_)
  refine lv_aload_n hx hb d_Held_init_26 rfl (lv_at hl 0 rfl) ?_
  refine r_new C hS nw_Held_9 (Nat.le_of_ble_eq_true rfl) (Nat.le_of_ble_eq_true rfl) d_Held_init_27 (fun H hS => ?_)
  refine lv_dup hx hb d_Held_init_30 rfl ?_
  obtain ⟨h5, eh5, hM⟩ := bS hM
  refine r_callN C hS cn_Held_11 (c_Tree_init l base D cI cZ (h4 ++ [.inr (7, [.null, .null, .int 0])]) h4.length eh5) (rest := [.ref (base + h4.length), .ref (base + l0)]) rfl hl.1 rfl (Nat.le_of_ble_eq_true rfl) ⟨(Nat.le_of_ble_eq_true rfl), (Nat.le_of_ble_eq_true rfl)⟩ ⟨(Nat.le_of_ble_eq_true rfl), (Nat.le_of_ble_eq_true rfl)⟩ d_Held_init_31 (fun H locs hS => ?_)
  obtain ⟨h6, eh6, hM⟩ := bS hM
  refine r_putR C hS fp_Held_21 eh6 rfl rfl d_Held_init_34 (fun H locs hS => ?_)
  refine lv_aload_n hx hb d_Held_init_37 rfl (lv_at hl 0 rfl) ?_
  refine lv_bipush (v := (50 : Int32)) hx hb d_Held_init_38 (by decide) ?_
  obtain ⟨h7, eh7, hM⟩ := bS hM
  refine r_putI C hS fp_Held_24 eh7 d_Held_init_40 (fun H locs hS => ?_)
  obtain rfl := Option.some.inj hM
  exact r_vret C hS d_Held_init_43
theorem c_Held_init (l : Launch) (base : Nat) (D : va_G) (cI cZ : ClassId) (h : Hp) (l0 : Nat) {r : Hp} (hM : f_Held_init h l0 = some r) : Ct l base D cI cZ y_Held_init b_Held_init 1 none 2 32 9 81 h [.ref (base + l0)] r none :=
  ct_of (by decide) (Nat.le_of_ble_eq_true rfl) (fun p e s m below meth c ls C hS hl => t_Held_init C hM _ _ _ hS hl)
theorem d_Tree_take_0 : decode b_Tree_take 0 = .ok (.iconst 0, 1) := by decide +kernel
theorem d_Tree_take_1 : decode b_Tree_take 1 = .ok (.istore_n 2, 1) := by decide +kernel
theorem d_Tree_take_2 : decode b_Tree_take 2 = .ok (.iload_n 2, 1) := by decide +kernel
theorem d_Tree_take_3 : decode b_Tree_take 3 = .ok (.aload_n 1, 1) := by decide +kernel
theorem d_Tree_take_4 : decode b_Tree_take 4 = .ok (.getfield 18, 3) := by decide +kernel
theorem d_Tree_take_7 : decode b_Tree_take 7 = .ok (.if_icmp .ge 33, 3) := by decide +kernel
theorem d_Tree_take_10 : decode b_Tree_take 10 = .ok (.aload_n 0, 1) := by decide +kernel
theorem d_Tree_take_11 : decode b_Tree_take 11 = .ok (.getfield 9, 3) := by decide +kernel
theorem d_Tree_take_14 : decode b_Tree_take 14 = .ok (.iload_n 2, 1) := by decide +kernel
theorem d_Tree_take_15 : decode b_Tree_take 15 = .ok (.aload_n 1, 1) := by decide +kernel
theorem d_Tree_take_16 : decode b_Tree_take 16 = .ok (.getfield 9, 3) := by decide +kernel
theorem d_Tree_take_19 : decode b_Tree_take 19 = .ok (.iload_n 2, 1) := by decide +kernel
theorem d_Tree_take_20 : decode b_Tree_take 20 = .ok (.iaload, 1) := by decide +kernel
theorem d_Tree_take_21 : decode b_Tree_take 21 = .ok (.iastore, 1) := by decide +kernel
theorem d_Tree_take_22 : decode b_Tree_take 22 = .ok (.aload_n 0, 1) := by decide +kernel
theorem d_Tree_take_23 : decode b_Tree_take 23 = .ok (.getfield 15, 3) := by decide +kernel
theorem d_Tree_take_26 : decode b_Tree_take 26 = .ok (.iload_n 2, 1) := by decide +kernel
theorem d_Tree_take_27 : decode b_Tree_take 27 = .ok (.aload_n 1, 1) := by decide +kernel
theorem d_Tree_take_28 : decode b_Tree_take 28 = .ok (.getfield 15, 3) := by decide +kernel
theorem d_Tree_take_31 : decode b_Tree_take 31 = .ok (.iload_n 2, 1) := by decide +kernel
theorem d_Tree_take_32 : decode b_Tree_take 32 = .ok (.iaload, 1) := by decide +kernel
theorem d_Tree_take_33 : decode b_Tree_take 33 = .ok (.iastore, 1) := by decide +kernel
theorem d_Tree_take_34 : decode b_Tree_take 34 = .ok (.iinc 2 1, 3) := by decide +kernel
theorem d_Tree_take_37 : decode b_Tree_take 37 = .ok (.goto (-35), 3) := by decide +kernel
theorem d_Tree_take_40 : decode b_Tree_take 40 = .ok (.aload_n 0, 1) := by decide +kernel
theorem d_Tree_take_41 : decode b_Tree_take 41 = .ok (.aload_n 1, 1) := by decide +kernel
theorem d_Tree_take_42 : decode b_Tree_take 42 = .ok (.getfield 18, 3) := by decide +kernel
theorem d_Tree_take_45 : decode b_Tree_take 45 = .ok (.putfield 18, 3) := by decide +kernel
theorem d_Tree_take_48 : decode b_Tree_take 48 = .ok (.return_, 1) := by decide +kernel
def f_Tree_take_2 (l0 : Nat) (l1 : Nat) : Nat → Int32 → Hp → Option Hp
  | 0, _, _ => none
  | n + 1, l2, h =>
    (gI h 7 l1 2).bind fun t1 =>
    if t1 ≤ l2 then (
      (gI h 7 l1 2).bind fun t2 =>
      (sI h 7 l0 2 t2).bind fun h3 =>
      some h3
    ) else (
      (gR h 7 l0 0).bind fun t4 =>
      (gR h 7 l1 0).bind fun t5 =>
      (gA h false t5 l2).bind fun t6 =>
      (sA h t4 l2 t6).bind fun h7 =>
      (gR h7 7 l0 1).bind fun t8 =>
      (gR h7 7 l1 1).bind fun t9 =>
      (gA h7 false t9 l2).bind fun t10 =>
      (sA h7 t8 l2 t10).bind fun h11 =>
      f_Tree_take_2 l0 l1 n (l2 + (1 : Int32)) h11
    )
set_option maxHeartbeats 4000000 in
set_option maxRecDepth 100000 in
theorem t_Tree_take_2 {l0 : Nat} {l1 : Nat} {r : Hp} (C : Cx base D cI cZ b_Tree_take 3 "MovedFolders$Tree" "take" none p s m args meth c)  : ∀ (n : Nat) (l2 : Int32) (h : Hp), f_Tree_take_2 l0 l1 n l2 h = some r → ∀ (H : Heap) (locs : List Loc) (ls : Array Slot), RS base D cI cZ s H locs h → lv_has ls 3 [(0, .ref (base + l0)), (1, .ref (base + l1)), (2, .int l2)] → Wg l base D cI cZ 0 0 0 0 r none p e s m args below meth c H locs 0 0 (F0 m 2 ls []) := by
  have hx := C.1
  have hb := C.2.1
  intro n
  induction n with
  | zero =>
    intro l2 h hM
    rw [f_Tree_take_2] at hM
    cases hM
  | succ n ih =>
    intro l2 h hM H locs ls hS hl
    rw [f_Tree_take_2] at hM
    refine lv_iload_n hx hb d_Tree_take_2 rfl (lv_at hl 2 rfl) ?_
    refine lv_aload_n hx hb d_Tree_take_3 rfl (lv_at hl 1 rfl) ?_
    obtain ⟨t1, et1, hM⟩ := bS hM
    refine r_getI C hS fl_Tree_18 et1 d_Tree_take_4 ?_
    refine lv_icmp_ge (tgt := 40) hx hb d_Tree_take_7 (by decide) (fun c7_1 => ?_) (fun c7_1 => ?_)
    · rw [if_pos c7_1] at hM
      refine lv_aload_n hx hb d_Tree_take_40 rfl (lv_at hl 0 rfl) ?_
      refine lv_aload_n hx hb d_Tree_take_41 rfl (lv_at hl 1 rfl) ?_
      obtain ⟨t2, et2, hM⟩ := bS hM
      refine r_getI C hS fl_Tree_18 et2 d_Tree_take_42 ?_
      obtain ⟨h3, eh3, hM⟩ := bS hM
      refine r_putI C hS fp_Tree_18 eh3 d_Tree_take_45 (fun H locs hS => ?_)
      obtain rfl := Option.some.inj hM
      exact r_vret C hS d_Tree_take_48
    · rw [if_neg c7_1] at hM
      refine lv_aload_n hx hb d_Tree_take_10 rfl (lv_at hl 0 rfl) ?_
      obtain ⟨t4, et4, hM⟩ := bS hM
      refine r_getR C hS fl_Tree_9 et4 d_Tree_take_11 ?_
      refine lv_iload_n hx hb d_Tree_take_14 rfl (lv_at hl 2 rfl) ?_
      refine lv_aload_n hx hb d_Tree_take_15 rfl (lv_at hl 1 rfl) ?_
      obtain ⟨t5, et5, hM⟩ := bS hM
      refine r_getR C hS fl_Tree_9 et5 d_Tree_take_16 ?_
      refine lv_iload_n hx hb d_Tree_take_19 rfl (lv_at hl 2 rfl) ?_
      obtain ⟨t6, et6, hM⟩ := bS hM
      refine r_iald C hS et6 d_Tree_take_20 ?_
      obtain ⟨h7, eh7, hM⟩ := bS hM
      refine r_iast C hS eh7 d_Tree_take_21 (fun H locs hS => ?_)
      refine lv_aload_n hx hb d_Tree_take_22 rfl (lv_at hl 0 rfl) ?_
      obtain ⟨t8, et8, hM⟩ := bS hM
      refine r_getR C hS fl_Tree_15 et8 d_Tree_take_23 ?_
      refine lv_iload_n hx hb d_Tree_take_26 rfl (lv_at hl 2 rfl) ?_
      refine lv_aload_n hx hb d_Tree_take_27 rfl (lv_at hl 1 rfl) ?_
      obtain ⟨t9, et9, hM⟩ := bS hM
      refine r_getR C hS fl_Tree_15 et9 d_Tree_take_28 ?_
      refine lv_iload_n hx hb d_Tree_take_31 rfl (lv_at hl 2 rfl) ?_
      obtain ⟨t10, et10, hM⟩ := bS hM
      refine r_iald C hS et10 d_Tree_take_32 ?_
      obtain ⟨h11, eh11, hM⟩ := bS hM
      refine r_iast C hS eh11 d_Tree_take_33 (fun H locs hS => ?_)
      refine lv_iinc (v := (l2 + (1 : Int32))) (lv' := [(2, .int (l2 + (1 : Int32))), (0, .ref (base + l0)), (1, .ref (base + l1))]) hx hb d_Tree_take_34 hl (k := 2) rfl (by rw [oi_1]) (by decide) rfl (fun ls hl => ?_)
      refine lv_goto (tgt := 2) hx hb d_Tree_take_37 (by decide) ?_
      exact ih (l2 + (1 : Int32)) h11 hM _ _ _ hS (lv_sub hl [1, 2, 0] rfl)
def f_Tree_take (h : Hp) (l0 : Nat) (l1 : Nat) : Option Hp :=
  ck h 7 l0 (
    f_Tree_take_2 l0 l1 FU (0 : Int32) h
  )
theorem o_Tree_take {h : Hp} {l0 : Nat} {l1 : Nat} {r : Hp} (hM : f_Tree_take h l0 l1 = some r) : isO h 7 l0 = true := by
  unfold f_Tree_take at hM
  exact (ck_some hM).1
set_option maxHeartbeats 4000000 in
set_option maxRecDepth 100000 in
theorem t_Tree_take {h : Hp} {l0 : Nat} {l1 : Nat} {r : Hp} (C : Cx base D cI cZ b_Tree_take 3 "MovedFolders$Tree" "take" none p s m args meth c) (hM : f_Tree_take h l0 l1 = some r) (H : Heap) (locs : List Loc) (ls : Array Slot) (hS : RS base D cI cZ s H locs h) (hl : lv_has ls 3 [(0, .ref (base + l0)), (1, .ref (base + l1))]) : Wg l base D cI cZ 0 0 0 0 r none p e s m args below meth c H locs 0 0 (F0 m 0 ls []) := by
  have hx := C.1
  have hb := C.2.1
  unfold f_Tree_take at hM
  replace hM := (ck_some hM).2
  refine lv_iconst (v := (0 : Int32)) hx hb d_Tree_take_0 (by decide) ?_
  refine lv_istore_n (lv' := [(2, .int (0 : Int32)), (0, .ref (base + l0)), (1, .ref (base + l1))]) hx hb d_Tree_take_1 rfl hl (by decide) rfl (fun ls hl => ?_)
  exact t_Tree_take_2  C  FU (0 : Int32) h hM _ _ _ hS (lv_sub hl [1, 2, 0] rfl)
theorem c_Tree_take (l : Launch) (base : Nat) (D : va_G) (cI cZ : ClassId) (h : Hp) (l0 : Nat) (l1 : Nat) {r : Hp} (hM : f_Tree_take h l0 l1 = some r) : Ct l base D cI cZ y_Tree_take b_Tree_take 3 none 0 0 0 0 h [.ref (base + l0), .ref (base + l1)] r none :=
  ct_of (by decide) (Nat.le_of_ble_eq_true rfl) (fun p e s m below meth c ls C hS hl => t_Tree_take C hM _ _ _ hS hl)
theorem d_Held_take_0 : decode b_Held_take 0 = .ok (.aload_n 0, 1) := by decide +kernel
theorem d_Held_take_1 : decode b_Held_take 1 = .ok (.getfield 12, 3) := by decide +kernel
theorem d_Held_take_4 : decode b_Held_take 4 = .ok (.aload_n 1, 1) := by decide +kernel
theorem d_Held_take_5 : decode b_Held_take 5 = .ok (.getfield 12, 3) := by decide +kernel
theorem d_Held_take_8 : decode b_Held_take 8 = .ok (.invokevirtual 28, 3) := by decide +kernel
theorem d_Held_take_11 : decode b_Held_take 11 = .ok (.aload_n 0, 1) := by decide +kernel
theorem d_Held_take_12 : decode b_Held_take 12 = .ok (.getfield 18, 3) := by decide +kernel
theorem d_Held_take_15 : decode b_Held_take 15 = .ok (.aload_n 1, 1) := by decide +kernel
theorem d_Held_take_16 : decode b_Held_take 16 = .ok (.getfield 18, 3) := by decide +kernel
theorem d_Held_take_19 : decode b_Held_take 19 = .ok (.invokevirtual 28, 3) := by decide +kernel
theorem d_Held_take_22 : decode b_Held_take 22 = .ok (.aload_n 0, 1) := by decide +kernel
theorem d_Held_take_23 : decode b_Held_take 23 = .ok (.getfield 21, 3) := by decide +kernel
theorem d_Held_take_26 : decode b_Held_take 26 = .ok (.aload_n 1, 1) := by decide +kernel
theorem d_Held_take_27 : decode b_Held_take 27 = .ok (.getfield 21, 3) := by decide +kernel
theorem d_Held_take_30 : decode b_Held_take 30 = .ok (.invokevirtual 28, 3) := by decide +kernel
theorem d_Held_take_33 : decode b_Held_take 33 = .ok (.aload_n 0, 1) := by decide +kernel
theorem d_Held_take_34 : decode b_Held_take 34 = .ok (.aload_n 1, 1) := by decide +kernel
theorem d_Held_take_35 : decode b_Held_take 35 = .ok (.getfield 24, 3) := by decide +kernel
theorem d_Held_take_38 : decode b_Held_take 38 = .ok (.putfield 24, 3) := by decide +kernel
theorem d_Held_take_41 : decode b_Held_take 41 = .ok (.return_, 1) := by decide +kernel
def f_Held_take (h : Hp) (l0 : Nat) (l1 : Nat) : Option Hp :=
  ck h 0 l0 (
    (gR h 0 l0 0).bind fun t1 =>
    (gR h 0 l1 0).bind fun t2 =>
    (f_Tree_take h t1 t2).bind fun h3 =>
    (gR h3 0 l0 1).bind fun t4 =>
    (gR h3 0 l1 1).bind fun t5 =>
    (f_Tree_take h3 t4 t5).bind fun h6 =>
    (gR h6 0 l0 2).bind fun t7 =>
    (gR h6 0 l1 2).bind fun t8 =>
    (f_Tree_take h6 t7 t8).bind fun h9 =>
    (gI h9 0 l1 3).bind fun t10 =>
    (sI h9 0 l0 3 t10).bind fun h11 =>
    some h11
  )
theorem o_Held_take {h : Hp} {l0 : Nat} {l1 : Nat} {r : Hp} (hM : f_Held_take h l0 l1 = some r) : isO h 0 l0 = true := by
  unfold f_Held_take at hM
  exact (ck_some hM).1
set_option maxHeartbeats 4000000 in
set_option maxRecDepth 100000 in
theorem t_Held_take {h : Hp} {l0 : Nat} {l1 : Nat} {r : Hp} (C : Cx base D cI cZ b_Held_take 2 "MovedFolders$Held" "take" none p s m args meth c) (hM : f_Held_take h l0 l1 = some r) (H : Heap) (locs : List Loc) (ls : Array Slot) (hS : RS base D cI cZ s H locs h) (hl : lv_has ls 2 [(0, .ref (base + l0)), (1, .ref (base + l1))]) : Wg l base D cI cZ 1 22 0 0 r none p e s m args below meth c H locs 0 0 (F0 m 0 ls []) := by
  have hx := C.1
  have hb := C.2.1
  unfold f_Held_take at hM
  replace hM := (ck_some hM).2
  refine lv_aload_n hx hb d_Held_take_0 rfl (lv_at hl 0 rfl) ?_
  obtain ⟨t1, et1, hM⟩ := bS hM
  refine r_getR C hS fl_Held_12 et1 d_Held_take_1 ?_
  refine lv_aload_n hx hb d_Held_take_4 rfl (lv_at hl 1 rfl) ?_
  obtain ⟨t2, et2, hM⟩ := bS hM
  refine r_getR C hS fl_Held_12 et2 d_Held_take_5 ?_
  obtain ⟨h3, eh3, hM⟩ := bS hM
  refine r_callVv C hS cv_Held_28 (c_Tree_take l base D cI cZ h t1 t2 eh3) (o_Tree_take eh3) (rest := []) rfl hl.1 rfl (Nat.le_of_ble_eq_true rfl) ⟨(Nat.le_of_ble_eq_true rfl), (Nat.le_of_ble_eq_true rfl)⟩ ⟨(Nat.le_of_ble_eq_true rfl), (Nat.le_of_ble_eq_true rfl)⟩ d_Held_take_8 (fun H locs hS => ?_)
  refine lv_aload_n hx hb d_Held_take_11 rfl (lv_at hl 0 rfl) ?_
  obtain ⟨t4, et4, hM⟩ := bS hM
  refine r_getR C hS fl_Held_18 et4 d_Held_take_12 ?_
  refine lv_aload_n hx hb d_Held_take_15 rfl (lv_at hl 1 rfl) ?_
  obtain ⟨t5, et5, hM⟩ := bS hM
  refine r_getR C hS fl_Held_18 et5 d_Held_take_16 ?_
  obtain ⟨h6, eh6, hM⟩ := bS hM
  refine r_callVv C hS cv_Held_28 (c_Tree_take l base D cI cZ h3 t4 t5 eh6) (o_Tree_take eh6) (rest := []) rfl hl.1 rfl (Nat.le_of_ble_eq_true rfl) ⟨(Nat.le_of_ble_eq_true rfl), (Nat.le_of_ble_eq_true rfl)⟩ ⟨(Nat.le_of_ble_eq_true rfl), (Nat.le_of_ble_eq_true rfl)⟩ d_Held_take_19 (fun H locs hS => ?_)
  refine lv_aload_n hx hb d_Held_take_22 rfl (lv_at hl 0 rfl) ?_
  obtain ⟨t7, et7, hM⟩ := bS hM
  refine r_getR C hS fl_Held_21 et7 d_Held_take_23 ?_
  refine lv_aload_n hx hb d_Held_take_26 rfl (lv_at hl 1 rfl) ?_
  obtain ⟨t8, et8, hM⟩ := bS hM
  refine r_getR C hS fl_Held_21 et8 d_Held_take_27 ?_
  obtain ⟨h9, eh9, hM⟩ := bS hM
  refine r_callVv C hS cv_Held_28 (c_Tree_take l base D cI cZ h6 t7 t8 eh9) (o_Tree_take eh9) (rest := []) rfl hl.1 rfl (Nat.le_of_ble_eq_true rfl) ⟨(Nat.le_of_ble_eq_true rfl), (Nat.le_of_ble_eq_true rfl)⟩ ⟨(Nat.le_of_ble_eq_true rfl), (Nat.le_of_ble_eq_true rfl)⟩ d_Held_take_30 (fun H locs hS => ?_)
  refine lv_aload_n hx hb d_Held_take_33 rfl (lv_at hl 0 rfl) ?_
  refine lv_aload_n hx hb d_Held_take_34 rfl (lv_at hl 1 rfl) ?_
  obtain ⟨t10, et10, hM⟩ := bS hM
  refine r_getI C hS fl_Held_24 et10 d_Held_take_35 ?_
  obtain ⟨h11, eh11, hM⟩ := bS hM
  refine r_putI C hS fp_Held_24 eh11 d_Held_take_38 (fun H locs hS => ?_)
  obtain rfl := Option.some.inj hM
  exact r_vret C hS d_Held_take_41
theorem c_Held_take (l : Launch) (base : Nat) (D : va_G) (cI cZ : ClassId) (h : Hp) (l0 : Nat) (l1 : Nat) {r : Hp} (hM : f_Held_take h l0 l1 = some r) : Ct l base D cI cZ y_Held_take b_Held_take 2 none 1 22 0 0 h [.ref (base + l0), .ref (base + l1)] r none :=
  ct_of (by decide) (Nat.le_of_ble_eq_true rfl) (fun p e s m below meth c ls C hS hl => t_Held_take C hM _ _ _ hS hl)
theorem d_Letters_isFolder_0 : decode b_Letters_isFolder 0 = .ok (.iload_n 0, 1) := by decide +kernel
theorem d_Letters_isFolder_1 : decode b_Letters_isFolder 1 = .ok (.ifCond .lt 10, 3) := by decide +kernel
theorem d_Letters_isFolder_4 : decode b_Letters_isFolder 4 = .ok (.iload_n 0, 1) := by decide +kernel
theorem d_Letters_isFolder_5 : decode b_Letters_isFolder 5 = .ok (.sipush 444, 3) := by decide +kernel
theorem d_Letters_isFolder_8 : decode b_Letters_isFolder 8 = .ok (.if_icmp .le 5, 3) := by decide +kernel
theorem d_Letters_isFolder_11 : decode b_Letters_isFolder 11 = .ok (.iconst 0, 1) := by decide +kernel
theorem d_Letters_isFolder_12 : decode b_Letters_isFolder 12 = .ok (.ireturn, 1) := by decide +kernel
theorem d_Letters_isFolder_13 : decode b_Letters_isFolder 13 = .ok (.iload_n 0, 1) := by decide +kernel
theorem d_Letters_isFolder_14 : decode b_Letters_isFolder 14 = .ok (.bipush 100, 2) := by decide +kernel
theorem d_Letters_isFolder_16 : decode b_Letters_isFolder 16 = .ok (.idiv, 1) := by decide +kernel
theorem d_Letters_isFolder_17 : decode b_Letters_isFolder 17 = .ok (.istore_n 1, 1) := by decide +kernel
theorem d_Letters_isFolder_18 : decode b_Letters_isFolder 18 = .ok (.iload_n 0, 1) := by decide +kernel
theorem d_Letters_isFolder_19 : decode b_Letters_isFolder 19 = .ok (.bipush 10, 2) := by decide +kernel
theorem d_Letters_isFolder_21 : decode b_Letters_isFolder 21 = .ok (.idiv, 1) := by decide +kernel
theorem d_Letters_isFolder_22 : decode b_Letters_isFolder 22 = .ok (.bipush 10, 2) := by decide +kernel
theorem d_Letters_isFolder_24 : decode b_Letters_isFolder 24 = .ok (.irem, 1) := by decide +kernel
theorem d_Letters_isFolder_25 : decode b_Letters_isFolder 25 = .ok (.istore_n 2, 1) := by decide +kernel
theorem d_Letters_isFolder_26 : decode b_Letters_isFolder 26 = .ok (.iload_n 0, 1) := by decide +kernel
theorem d_Letters_isFolder_27 : decode b_Letters_isFolder 27 = .ok (.bipush 10, 2) := by decide +kernel
theorem d_Letters_isFolder_29 : decode b_Letters_isFolder 29 = .ok (.irem, 1) := by decide +kernel
theorem d_Letters_isFolder_30 : decode b_Letters_isFolder 30 = .ok (.istore_n 3, 1) := by decide +kernel
theorem d_Letters_isFolder_31 : decode b_Letters_isFolder 31 = .ok (.iload_n 2, 1) := by decide +kernel
theorem d_Letters_isFolder_32 : decode b_Letters_isFolder 32 = .ok (.iconst 4, 1) := by decide +kernel
theorem d_Letters_isFolder_33 : decode b_Letters_isFolder 33 = .ok (.if_icmp .gt 8, 3) := by decide +kernel
theorem d_Letters_isFolder_36 : decode b_Letters_isFolder 36 = .ok (.iload_n 3, 1) := by decide +kernel
theorem d_Letters_isFolder_37 : decode b_Letters_isFolder 37 = .ok (.iconst 4, 1) := by decide +kernel
theorem d_Letters_isFolder_38 : decode b_Letters_isFolder 38 = .ok (.if_icmp .le 5, 3) := by decide +kernel
theorem d_Letters_isFolder_41 : decode b_Letters_isFolder 41 = .ok (.iconst 0, 1) := by decide +kernel
theorem d_Letters_isFolder_42 : decode b_Letters_isFolder 42 = .ok (.ireturn, 1) := by decide +kernel
theorem d_Letters_isFolder_43 : decode b_Letters_isFolder 43 = .ok (.iload_n 1, 1) := by decide +kernel
theorem d_Letters_isFolder_44 : decode b_Letters_isFolder 44 = .ok (.ifCond .ne 7, 3) := by decide +kernel
theorem d_Letters_isFolder_47 : decode b_Letters_isFolder 47 = .ok (.iload_n 2, 1) := by decide +kernel
theorem d_Letters_isFolder_48 : decode b_Letters_isFolder 48 = .ok (.ifCond .ne 15, 3) := by decide +kernel
theorem d_Letters_isFolder_51 : decode b_Letters_isFolder 51 = .ok (.iload_n 2, 1) := by decide +kernel
theorem d_Letters_isFolder_52 : decode b_Letters_isFolder 52 = .ok (.ifCond .ne 7, 3) := by decide +kernel
theorem d_Letters_isFolder_55 : decode b_Letters_isFolder 55 = .ok (.iload_n 3, 1) := by decide +kernel
theorem d_Letters_isFolder_56 : decode b_Letters_isFolder 56 = .ok (.ifCond .ne 7, 3) := by decide +kernel
theorem d_Letters_isFolder_59 : decode b_Letters_isFolder 59 = .ok (.iconst 1, 1) := by decide +kernel
theorem d_Letters_isFolder_60 : decode b_Letters_isFolder 60 = .ok (.goto 4, 3) := by decide +kernel
theorem d_Letters_isFolder_63 : decode b_Letters_isFolder 63 = .ok (.iconst 0, 1) := by decide +kernel
theorem d_Letters_isFolder_64 : decode b_Letters_isFolder 64 = .ok (.ireturn, 1) := by decide +kernel
def f_Letters_isFolder (l0 : Int32) : Option Int32 :=
  if l0 < (0 : Int32) then (
    rz (0 : Int32)
  ) else (
    if l0 ≤ (444 : Int32) then (
      if (4 : Int32) < (irem (l0 / (10 : Int32)) (10 : Int32)) then (
        rz (0 : Int32)
      ) else (
        if (irem l0 (10 : Int32)) ≤ (4 : Int32) then (
          rz (if (l0 / (100 : Int32)) = (0 : Int32) then (if (irem (l0 / (10 : Int32)) (10 : Int32)) = (0 : Int32) then (if (irem (l0 / (10 : Int32)) (10 : Int32)) = (0 : Int32) then (if (irem l0 (10 : Int32)) = (0 : Int32) then ((1 : Int32)) else ((0 : Int32))) else ((1 : Int32))) else ((0 : Int32))) else (if (irem (l0 / (10 : Int32)) (10 : Int32)) = (0 : Int32) then (if (irem l0 (10 : Int32)) = (0 : Int32) then ((1 : Int32)) else ((0 : Int32))) else ((1 : Int32))))
        ) else (
          rz (0 : Int32)
        )
      )
    ) else (
      rz (0 : Int32)
    )
  )
set_option maxHeartbeats 4000000 in
set_option maxRecDepth 100000 in
theorem t_Letters_isFolder {h : Hp} {l0 : Int32} {r : Int32} (C : Cx base D cI cZ b_Letters_isFolder 4 "MovedFolders$Letters" "isFolder" (some .boolean) p s m args meth c) (hM : f_Letters_isFolder l0 = some r) (H : Heap) (locs : List Loc) (ls : Array Slot) (hS : RS base D cI cZ s H locs h) (hl : lv_has ls 4 [(0, .int l0)]) : Wg l base D cI cZ 0 0 0 0 h (some (.int r)) p e s m args below meth c H locs 0 0 (F0 m 0 ls []) := by
  have hx := C.1
  have hb := C.2.1
  unfold f_Letters_isFolder at hM
  refine lv_iload_n hx hb d_Letters_isFolder_0 rfl (lv_at hl 0 rfl) ?_
  refine lv_if_lt (tgt := 11) hx hb d_Letters_isFolder_1 (by decide) (fun c1_1 => ?_) (fun c1_1 => ?_)
  · rw [if_pos c1_1] at hM
    refine lv_iconst (v := (0 : Int32)) hx hb d_Letters_isFolder_11 (by decide) ?_
    exact r_zret C hS hM d_Letters_isFolder_12
  · rw [if_neg c1_1] at hM
    refine lv_iload_n hx hb d_Letters_isFolder_4 rfl (lv_at hl 0 rfl) ?_
    refine lv_sipush (v := (444 : Int32)) hx hb d_Letters_isFolder_5 (by decide) ?_
    refine lv_icmp_le (tgt := 13) hx hb d_Letters_isFolder_8 (by decide) (fun c8_2 => ?_) (fun c8_2 => ?_)
    · rw [if_pos c8_2] at hM
      refine lv_iload_n hx hb d_Letters_isFolder_13 rfl (lv_at hl 0 rfl) ?_
      refine lv_bipush (v := (100 : Int32)) hx hb d_Letters_isFolder_14 (by decide) ?_
      refine lv_idiv hx hb d_Letters_isFolder_16 (by decide) ?_
      refine lv_istore_n (lv' := [(1, .int (l0 / (100 : Int32))), (0, .int l0)]) hx hb d_Letters_isFolder_17 rfl hl (by decide) rfl (fun ls hl => ?_)
      refine lv_iload_n hx hb d_Letters_isFolder_18 rfl (lv_at hl 1 rfl) ?_
      refine lv_bipush (v := (10 : Int32)) hx hb d_Letters_isFolder_19 (by decide) ?_
      refine lv_idiv hx hb d_Letters_isFolder_21 (by decide) ?_
      refine lv_bipush (v := (10 : Int32)) hx hb d_Letters_isFolder_22 (by decide) ?_
      refine r_irem hx hb d_Letters_isFolder_24 (by decide) ?_
      refine lv_istore_n (lv' := [(2, .int (irem (l0 / (10 : Int32)) (10 : Int32))), (1, .int (l0 / (100 : Int32))), (0, .int l0)]) hx hb d_Letters_isFolder_25 rfl hl (by decide) rfl (fun ls hl => ?_)
      refine lv_iload_n hx hb d_Letters_isFolder_26 rfl (lv_at hl 2 rfl) ?_
      refine lv_bipush (v := (10 : Int32)) hx hb d_Letters_isFolder_27 (by decide) ?_
      refine r_irem hx hb d_Letters_isFolder_29 (by decide) ?_
      refine lv_istore_n (lv' := [(3, .int (irem l0 (10 : Int32))), (2, .int (irem (l0 / (10 : Int32)) (10 : Int32))), (1, .int (l0 / (100 : Int32))), (0, .int l0)]) hx hb d_Letters_isFolder_30 rfl hl (by decide) rfl (fun ls hl => ?_)
      refine lv_iload_n hx hb d_Letters_isFolder_31 rfl (lv_at hl 1 rfl) ?_
      refine lv_iconst (v := (4 : Int32)) hx hb d_Letters_isFolder_32 (by decide) ?_
      refine lv_icmp_gt (tgt := 41) hx hb d_Letters_isFolder_33 (by decide) (fun c33_3 => ?_) (fun c33_3 => ?_)
      · rw [if_pos c33_3] at hM
        refine lv_iconst (v := (0 : Int32)) hx hb d_Letters_isFolder_41 (by decide) ?_
        exact r_zret C hS hM d_Letters_isFolder_42
      · rw [if_neg c33_3] at hM
        refine lv_iload_n hx hb d_Letters_isFolder_36 rfl (lv_at hl 0 rfl) ?_
        refine lv_iconst (v := (4 : Int32)) hx hb d_Letters_isFolder_37 (by decide) ?_
        refine lv_icmp_le (tgt := 43) hx hb d_Letters_isFolder_38 (by decide) (fun c38_4 => ?_) (fun c38_4 => ?_)
        · rw [if_pos c38_4] at hM
          refine lv_iload_n hx hb d_Letters_isFolder_43 rfl (lv_at hl 2 rfl) ?_
          have kJ64_5 : ∀ (H : Heap) (locs : List Loc) (ls : Array Slot), RS base D cI cZ s H locs h → lv_has ls 4 [] → Wg l base D cI cZ 0 0 0 0 h (some (.int r)) p e s m args below meth c H locs 0 0 (F0 m 64 ls [.int (if (l0 / (100 : Int32)) = (0 : Int32) then (if (irem (l0 / (10 : Int32)) (10 : Int32)) = (0 : Int32) then (if (irem (l0 / (10 : Int32)) (10 : Int32)) = (0 : Int32) then (if (irem l0 (10 : Int32)) = (0 : Int32) then ((1 : Int32)) else ((0 : Int32))) else ((1 : Int32))) else ((0 : Int32))) else (if (irem (l0 / (10 : Int32)) (10 : Int32)) = (0 : Int32) then (if (irem l0 (10 : Int32)) = (0 : Int32) then ((1 : Int32)) else ((0 : Int32))) else ((1 : Int32))))]) := by
            intro H locs ls hS hl
            exact r_zret C hS hM d_Letters_isFolder_64
          refine lv_if_ne (tgt := 51) hx hb d_Letters_isFolder_44 (by decide) (fun c44_6 => ?_) (fun c44_6 => ?_)
          · rw [if_neg c44_6] at kJ64_5
            refine lv_iload_n hx hb d_Letters_isFolder_51 rfl (lv_at hl 1 rfl) ?_
            refine lv_if_ne (tgt := 59) hx hb d_Letters_isFolder_52 (by decide) (fun c52_7 => ?_) (fun c52_7 => ?_)
            · rw [if_neg c52_7] at kJ64_5
              refine lv_iconst (v := (1 : Int32)) hx hb d_Letters_isFolder_59 (by decide) ?_
              refine lv_goto (tgt := 64) hx hb d_Letters_isFolder_60 (by decide) ?_
              exact kJ64_5 _ _ _ hS (lv_sub hl [] rfl)
            · rw [if_pos c52_7] at kJ64_5
              refine lv_iload_n hx hb d_Letters_isFolder_55 rfl (lv_at hl 0 rfl) ?_
              refine lv_if_ne (tgt := 63) hx hb d_Letters_isFolder_56 (by decide) (fun c56_8 => ?_) (fun c56_8 => ?_)
              · rw [if_neg c56_8] at kJ64_5
                refine lv_iconst (v := (0 : Int32)) hx hb d_Letters_isFolder_63 (by decide) ?_
                exact kJ64_5 _ _ _ hS (lv_sub hl [] rfl)
              · rw [if_pos c56_8] at kJ64_5
                refine lv_iconst (v := (1 : Int32)) hx hb d_Letters_isFolder_59 (by decide) ?_
                refine lv_goto (tgt := 64) hx hb d_Letters_isFolder_60 (by decide) ?_
                exact kJ64_5 _ _ _ hS (lv_sub hl [] rfl)
          · rw [if_pos c44_6] at kJ64_5
            refine lv_iload_n hx hb d_Letters_isFolder_47 rfl (lv_at hl 1 rfl) ?_
            refine lv_if_ne (tgt := 63) hx hb d_Letters_isFolder_48 (by decide) (fun c48_9 => ?_) (fun c48_9 => ?_)
            · rw [if_neg c48_9] at kJ64_5
              refine lv_iconst (v := (0 : Int32)) hx hb d_Letters_isFolder_63 (by decide) ?_
              exact kJ64_5 _ _ _ hS (lv_sub hl [] rfl)
            · rw [if_pos c48_9] at kJ64_5
              refine lv_iload_n hx hb d_Letters_isFolder_51 rfl (lv_at hl 1 rfl) ?_
              refine lv_if_ne (tgt := 59) hx hb d_Letters_isFolder_52 (by decide) (fun c52_10 => ?_) (fun c52_10 => ?_)
              · rw [if_neg c52_10] at kJ64_5
                refine lv_iconst (v := (1 : Int32)) hx hb d_Letters_isFolder_59 (by decide) ?_
                refine lv_goto (tgt := 64) hx hb d_Letters_isFolder_60 (by decide) ?_
                exact kJ64_5 _ _ _ hS (lv_sub hl [] rfl)
              · rw [if_pos c52_10] at kJ64_5
                refine lv_iload_n hx hb d_Letters_isFolder_55 rfl (lv_at hl 0 rfl) ?_
                refine lv_if_ne (tgt := 63) hx hb d_Letters_isFolder_56 (by decide) (fun c56_11 => ?_) (fun c56_11 => ?_)
                · rw [if_neg c56_11] at kJ64_5
                  refine lv_iconst (v := (0 : Int32)) hx hb d_Letters_isFolder_63 (by decide) ?_
                  exact kJ64_5 _ _ _ hS (lv_sub hl [] rfl)
                · rw [if_pos c56_11] at kJ64_5
                  refine lv_iconst (v := (1 : Int32)) hx hb d_Letters_isFolder_59 (by decide) ?_
                  refine lv_goto (tgt := 64) hx hb d_Letters_isFolder_60 (by decide) ?_
                  exact kJ64_5 _ _ _ hS (lv_sub hl [] rfl)
        · rw [if_neg c38_4] at hM
          refine lv_iconst (v := (0 : Int32)) hx hb d_Letters_isFolder_41 (by decide) ?_
          exact r_zret C hS hM d_Letters_isFolder_42
    · rw [if_neg c8_2] at hM
      refine lv_iconst (v := (0 : Int32)) hx hb d_Letters_isFolder_11 (by decide) ?_
      exact r_zret C hS hM d_Letters_isFolder_12
theorem c_Letters_isFolder (l : Launch) (base : Nat) (D : va_G) (cI cZ : ClassId) (h : Hp) (l0 : Int32) {r : Int32} (hM : f_Letters_isFolder l0 = some r) : Ct l base D cI cZ y_Letters_isFolder b_Letters_isFolder 4 (some .boolean) 0 0 0 0 h [.int l0] h (some (.int r)) :=
  ct_of (by decide) (Nat.le_of_ble_eq_true rfl) (fun p e s m below meth c ls C hS hl => t_Letters_isFolder C hM _ _ _ hS hl)
theorem d_Letters_folderOf_0 : decode b_Letters_folderOf 0 = .ok (.iload_n 0, 1) := by decide +kernel
theorem d_Letters_folderOf_1 : decode b_Letters_folderOf 1 = .ok (.bipush 10, 2) := by decide +kernel
theorem d_Letters_folderOf_3 : decode b_Letters_folderOf 3 = .ok (.idiv, 1) := by decide +kernel
theorem d_Letters_folderOf_4 : decode b_Letters_folderOf 4 = .ok (.ireturn, 1) := by decide +kernel
def f_Letters_folderOf (l0 : Int32) : Option Int32 :=
  some (l0 / (10 : Int32))
set_option maxHeartbeats 4000000 in
set_option maxRecDepth 100000 in
theorem t_Letters_folderOf {h : Hp} {l0 : Int32} {r : Int32} (C : Cx base D cI cZ b_Letters_folderOf 1 "MovedFolders$Letters" "folderOf" (some .int) p s m args meth c) (hM : f_Letters_folderOf l0 = some r) (H : Heap) (locs : List Loc) (ls : Array Slot) (hS : RS base D cI cZ s H locs h) (hl : lv_has ls 1 [(0, .int l0)]) : Wg l base D cI cZ 0 0 0 0 h (some (.int r)) p e s m args below meth c H locs 0 0 (F0 m 0 ls []) := by
  have hx := C.1
  have hb := C.2.1
  unfold f_Letters_folderOf at hM
  refine lv_iload_n hx hb d_Letters_folderOf_0 rfl (lv_at hl 0 rfl) ?_
  refine lv_bipush (v := (10 : Int32)) hx hb d_Letters_folderOf_1 (by decide) ?_
  refine lv_idiv hx hb d_Letters_folderOf_3 (by decide) ?_
  obtain rfl := Option.some.inj hM
  exact r_iret C hS d_Letters_folderOf_4
theorem c_Letters_folderOf (l : Launch) (base : Nat) (D : va_G) (cI cZ : ClassId) (h : Hp) (l0 : Int32) {r : Int32} (hM : f_Letters_folderOf l0 = some r) : Ct l base D cI cZ y_Letters_folderOf b_Letters_folderOf 1 (some .int) 0 0 0 0 h [.int l0] h (some (.int r)) :=
  ct_of (by decide) (Nat.le_of_ble_eq_true rfl) (fun p e s m below meth c ls C hS hl => t_Letters_folderOf C hM _ _ _ hS hl)
theorem d_Letters_nameOf_0 : decode b_Letters_nameOf 0 = .ok (.iload_n 0, 1) := by decide +kernel
theorem d_Letters_nameOf_1 : decode b_Letters_nameOf 1 = .ok (.bipush 10, 2) := by decide +kernel
theorem d_Letters_nameOf_3 : decode b_Letters_nameOf 3 = .ok (.irem, 1) := by decide +kernel
theorem d_Letters_nameOf_4 : decode b_Letters_nameOf 4 = .ok (.ireturn, 1) := by decide +kernel
def f_Letters_nameOf (l0 : Int32) : Option Int32 :=
  some (irem l0 (10 : Int32))
set_option maxHeartbeats 4000000 in
set_option maxRecDepth 100000 in
theorem t_Letters_nameOf {h : Hp} {l0 : Int32} {r : Int32} (C : Cx base D cI cZ b_Letters_nameOf 1 "MovedFolders$Letters" "nameOf" (some .int) p s m args meth c) (hM : f_Letters_nameOf l0 = some r) (H : Heap) (locs : List Loc) (ls : Array Slot) (hS : RS base D cI cZ s H locs h) (hl : lv_has ls 1 [(0, .int l0)]) : Wg l base D cI cZ 0 0 0 0 h (some (.int r)) p e s m args below meth c H locs 0 0 (F0 m 0 ls []) := by
  have hx := C.1
  have hb := C.2.1
  unfold f_Letters_nameOf at hM
  refine lv_iload_n hx hb d_Letters_nameOf_0 rfl (lv_at hl 0 rfl) ?_
  refine lv_bipush (v := (10 : Int32)) hx hb d_Letters_nameOf_1 (by decide) ?_
  refine r_irem hx hb d_Letters_nameOf_3 (by decide) ?_
  obtain rfl := Option.some.inj hM
  exact r_iret C hS d_Letters_nameOf_4
theorem c_Letters_nameOf (l : Launch) (base : Nat) (D : va_G) (cI cZ : ClassId) (h : Hp) (l0 : Int32) {r : Int32} (hM : f_Letters_nameOf l0 = some r) : Ct l base D cI cZ y_Letters_nameOf b_Letters_nameOf 1 (some .int) 0 0 0 0 h [.int l0] h (some (.int r)) :=
  ct_of (by decide) (Nat.le_of_ble_eq_true rfl) (fun p e s m below meth c ls C hS hl => t_Letters_nameOf C hM _ _ _ hS hl)
theorem d_Letters_lengthOf_0 : decode b_Letters_lengthOf 0 = .ok (.iload_n 0, 1) := by decide +kernel
theorem d_Letters_lengthOf_1 : decode b_Letters_lengthOf 1 = .ok (.bipush 10, 2) := by decide +kernel
theorem d_Letters_lengthOf_3 : decode b_Letters_lengthOf 3 = .ok (.irem, 1) := by decide +kernel
theorem d_Letters_lengthOf_4 : decode b_Letters_lengthOf 4 = .ok (.ifCond .eq 5, 3) := by decide +kernel
theorem d_Letters_lengthOf_7 : decode b_Letters_lengthOf 7 = .ok (.iconst 3, 1) := by decide +kernel
theorem d_Letters_lengthOf_8 : decode b_Letters_lengthOf 8 = .ok (.ireturn, 1) := by decide +kernel
theorem d_Letters_lengthOf_9 : decode b_Letters_lengthOf 9 = .ok (.iload_n 0, 1) := by decide +kernel
theorem d_Letters_lengthOf_10 : decode b_Letters_lengthOf 10 = .ok (.bipush 100, 2) := by decide +kernel
theorem d_Letters_lengthOf_12 : decode b_Letters_lengthOf 12 = .ok (.irem, 1) := by decide +kernel
theorem d_Letters_lengthOf_13 : decode b_Letters_lengthOf 13 = .ok (.ifCond .eq 7, 3) := by decide +kernel
theorem d_Letters_lengthOf_16 : decode b_Letters_lengthOf 16 = .ok (.iconst 2, 1) := by decide +kernel
theorem d_Letters_lengthOf_17 : decode b_Letters_lengthOf 17 = .ok (.goto 12, 3) := by decide +kernel
theorem d_Letters_lengthOf_20 : decode b_Letters_lengthOf 20 = .ok (.iload_n 0, 1) := by decide +kernel
theorem d_Letters_lengthOf_21 : decode b_Letters_lengthOf 21 = .ok (.ifCond .eq 7, 3) := by decide +kernel
theorem d_Letters_lengthOf_24 : decode b_Letters_lengthOf 24 = .ok (.iconst 1, 1) := by decide +kernel
theorem d_Letters_lengthOf_25 : decode b_Letters_lengthOf 25 = .ok (.goto 4, 3) := by decide +kernel
theorem d_Letters_lengthOf_28 : decode b_Letters_lengthOf 28 = .ok (.iconst 0, 1) := by decide +kernel
theorem d_Letters_lengthOf_29 : decode b_Letters_lengthOf 29 = .ok (.ireturn, 1) := by decide +kernel
def f_Letters_lengthOf (l0 : Int32) : Option Int32 :=
  if (irem l0 (10 : Int32)) = (0 : Int32) then (
    some (if (irem l0 (100 : Int32)) = (0 : Int32) then (if l0 = (0 : Int32) then ((0 : Int32)) else ((1 : Int32))) else ((2 : Int32)))
  ) else (
    some (3 : Int32)
  )
set_option maxHeartbeats 4000000 in
set_option maxRecDepth 100000 in
theorem t_Letters_lengthOf {h : Hp} {l0 : Int32} {r : Int32} (C : Cx base D cI cZ b_Letters_lengthOf 1 "MovedFolders$Letters" "lengthOf" (some .int) p s m args meth c) (hM : f_Letters_lengthOf l0 = some r) (H : Heap) (locs : List Loc) (ls : Array Slot) (hS : RS base D cI cZ s H locs h) (hl : lv_has ls 1 [(0, .int l0)]) : Wg l base D cI cZ 0 0 0 0 h (some (.int r)) p e s m args below meth c H locs 0 0 (F0 m 0 ls []) := by
  have hx := C.1
  have hb := C.2.1
  unfold f_Letters_lengthOf at hM
  refine lv_iload_n hx hb d_Letters_lengthOf_0 rfl (lv_at hl 0 rfl) ?_
  refine lv_bipush (v := (10 : Int32)) hx hb d_Letters_lengthOf_1 (by decide) ?_
  refine r_irem hx hb d_Letters_lengthOf_3 (by decide) ?_
  refine lv_if_eq (tgt := 9) hx hb d_Letters_lengthOf_4 (by decide) (fun c4_1 => ?_) (fun c4_1 => ?_)
  · rw [if_pos c4_1] at hM
    refine lv_iload_n hx hb d_Letters_lengthOf_9 rfl (lv_at hl 0 rfl) ?_
    refine lv_bipush (v := (100 : Int32)) hx hb d_Letters_lengthOf_10 (by decide) ?_
    refine r_irem hx hb d_Letters_lengthOf_12 (by decide) ?_
    have kJ29_2 : ∀ (H : Heap) (locs : List Loc) (ls : Array Slot), RS base D cI cZ s H locs h → lv_has ls 1 [] → Wg l base D cI cZ 0 0 0 0 h (some (.int r)) p e s m args below meth c H locs 0 0 (F0 m 29 ls [.int (if (irem l0 (100 : Int32)) = (0 : Int32) then (if l0 = (0 : Int32) then ((0 : Int32)) else ((1 : Int32))) else ((2 : Int32)))]) := by
      intro H locs ls hS hl
      obtain rfl := Option.some.inj hM
      exact r_iret C hS d_Letters_lengthOf_29
    refine lv_if_eq (tgt := 20) hx hb d_Letters_lengthOf_13 (by decide) (fun c13_3 => ?_) (fun c13_3 => ?_)
    · rw [if_pos c13_3] at kJ29_2
      refine lv_iload_n hx hb d_Letters_lengthOf_20 rfl (lv_at hl 0 rfl) ?_
      refine lv_if_eq (tgt := 28) hx hb d_Letters_lengthOf_21 (by decide) (fun c21_4 => ?_) (fun c21_4 => ?_)
      · rw [if_pos c21_4] at kJ29_2
        refine lv_iconst (v := (0 : Int32)) hx hb d_Letters_lengthOf_28 (by decide) ?_
        exact kJ29_2 _ _ _ hS (lv_sub hl [] rfl)
      · rw [if_neg c21_4] at kJ29_2
        refine lv_iconst (v := (1 : Int32)) hx hb d_Letters_lengthOf_24 (by decide) ?_
        refine lv_goto (tgt := 29) hx hb d_Letters_lengthOf_25 (by decide) ?_
        exact kJ29_2 _ _ _ hS (lv_sub hl [] rfl)
    · rw [if_neg c13_3] at kJ29_2
      refine lv_iconst (v := (2 : Int32)) hx hb d_Letters_lengthOf_16 (by decide) ?_
      refine lv_goto (tgt := 29) hx hb d_Letters_lengthOf_17 (by decide) ?_
      exact kJ29_2 _ _ _ hS (lv_sub hl [] rfl)
  · rw [if_neg c4_1] at hM
    refine lv_iconst (v := (3 : Int32)) hx hb d_Letters_lengthOf_7 (by decide) ?_
    obtain rfl := Option.some.inj hM
    exact r_iret C hS d_Letters_lengthOf_8
theorem c_Letters_lengthOf (l : Launch) (base : Nat) (D : va_G) (cI cZ : ClassId) (h : Hp) (l0 : Int32) {r : Int32} (hM : f_Letters_lengthOf l0 = some r) : Ct l base D cI cZ y_Letters_lengthOf b_Letters_lengthOf 1 (some .int) 0 0 0 0 h [.int l0] h (some (.int r)) :=
  ct_of (by decide) (Nat.le_of_ble_eq_true rfl) (fun p e s m below meth c ls C hS hl => t_Letters_lengthOf C hM _ _ _ hS hl)
theorem d_Letters_firstOf_0 : decode b_Letters_firstOf 0 = .ok (.iload_n 1, 1) := by decide +kernel
theorem d_Letters_firstOf_1 : decode b_Letters_firstOf 1 = .ok (.tableswitch 43 0 2 #[27, 29, 36], 27) := by decide +kernel
theorem d_Letters_firstOf_28 : decode b_Letters_firstOf 28 = .ok (.iconst 0, 1) := by decide +kernel
theorem d_Letters_firstOf_29 : decode b_Letters_firstOf 29 = .ok (.ireturn, 1) := by decide +kernel
theorem d_Letters_firstOf_30 : decode b_Letters_firstOf 30 = .ok (.iload_n 0, 1) := by decide +kernel
theorem d_Letters_firstOf_31 : decode b_Letters_firstOf 31 = .ok (.iload_n 0, 1) := by decide +kernel
theorem d_Letters_firstOf_32 : decode b_Letters_firstOf 32 = .ok (.bipush 100, 2) := by decide +kernel
theorem d_Letters_firstOf_34 : decode b_Letters_firstOf 34 = .ok (.irem, 1) := by decide +kernel
theorem d_Letters_firstOf_35 : decode b_Letters_firstOf 35 = .ok (.isub, 1) := by decide +kernel
theorem d_Letters_firstOf_36 : decode b_Letters_firstOf 36 = .ok (.ireturn, 1) := by decide +kernel
theorem d_Letters_firstOf_37 : decode b_Letters_firstOf 37 = .ok (.iload_n 0, 1) := by decide +kernel
theorem d_Letters_firstOf_38 : decode b_Letters_firstOf 38 = .ok (.iload_n 0, 1) := by decide +kernel
theorem d_Letters_firstOf_39 : decode b_Letters_firstOf 39 = .ok (.bipush 10, 2) := by decide +kernel
theorem d_Letters_firstOf_41 : decode b_Letters_firstOf 41 = .ok (.irem, 1) := by decide +kernel
theorem d_Letters_firstOf_42 : decode b_Letters_firstOf 42 = .ok (.isub, 1) := by decide +kernel
theorem d_Letters_firstOf_43 : decode b_Letters_firstOf 43 = .ok (.ireturn, 1) := by decide +kernel
theorem d_Letters_firstOf_44 : decode b_Letters_firstOf 44 = .ok (.iload_n 0, 1) := by decide +kernel
theorem d_Letters_firstOf_45 : decode b_Letters_firstOf 45 = .ok (.ireturn, 1) := by decide +kernel
def f_Letters_firstOf (l0 : Int32) (l1 : Int32) : Option Int32 :=
  if l1 = (0 : Int32) then (
    some (0 : Int32)
  ) else (
    if l1 = (1 : Int32) then (
      some (l0 - (irem l0 (100 : Int32)))
    ) else (
      if l1 = (2 : Int32) then (
        some (l0 - (irem l0 (10 : Int32)))
      ) else (
        some l0
  )))
set_option maxHeartbeats 4000000 in
set_option maxRecDepth 100000 in
theorem t_Letters_firstOf {h : Hp} {l0 : Int32} {l1 : Int32} {r : Int32} (C : Cx base D cI cZ b_Letters_firstOf 2 "MovedFolders$Letters" "firstOf" (some .int) p s m args meth c) (hM : f_Letters_firstOf l0 l1 = some r) (H : Heap) (locs : List Loc) (ls : Array Slot) (hS : RS base D cI cZ s H locs h) (hl : lv_has ls 2 [(0, .int l0), (1, .int l1)]) : Wg l base D cI cZ 0 0 0 0 h (some (.int r)) p e s m args below meth c H locs 0 0 (F0 m 0 ls []) := by
  have hx := C.1
  have hb := C.2.1
  unfold f_Letters_firstOf at hM
  refine lv_iload_n hx hb d_Letters_firstOf_0 rfl (lv_at hl 1 rfl) ?_
  by_cases c1_1 : l1 = (0 : Int32)
  · rw [if_pos c1_1] at hM
    refine lv_tableIn (off := 27) (tgt := 28) hx hb d_Letters_firstOf_1 (by rw [c1_1]; decide) (by rw [c1_1]; decide) (by rw [c1_1]; rfl) (by decide) ?_
    refine lv_iconst (v := (0 : Int32)) hx hb d_Letters_firstOf_28 (by decide) ?_
    obtain rfl := Option.some.inj hM
    exact r_iret C hS d_Letters_firstOf_29
  rw [if_neg c1_1] at hM
  by_cases c1_2 : l1 = (1 : Int32)
  · rw [if_pos c1_2] at hM
    refine lv_tableIn (off := 29) (tgt := 30) hx hb d_Letters_firstOf_1 (by rw [c1_2]; decide) (by rw [c1_2]; decide) (by rw [c1_2]; rfl) (by decide) ?_
    refine lv_iload_n hx hb d_Letters_firstOf_30 rfl (lv_at hl 0 rfl) ?_
    refine lv_iload_n hx hb d_Letters_firstOf_31 rfl (lv_at hl 0 rfl) ?_
    refine lv_bipush (v := (100 : Int32)) hx hb d_Letters_firstOf_32 (by decide) ?_
    refine r_irem hx hb d_Letters_firstOf_34 (by decide) ?_
    refine lv_isub hx hb d_Letters_firstOf_35 ?_
    obtain rfl := Option.some.inj hM
    exact r_iret C hS d_Letters_firstOf_36
  rw [if_neg c1_2] at hM
  by_cases c1_3 : l1 = (2 : Int32)
  · rw [if_pos c1_3] at hM
    refine lv_tableIn (off := 36) (tgt := 37) hx hb d_Letters_firstOf_1 (by rw [c1_3]; decide) (by rw [c1_3]; decide) (by rw [c1_3]; rfl) (by decide) ?_
    refine lv_iload_n hx hb d_Letters_firstOf_37 rfl (lv_at hl 0 rfl) ?_
    refine lv_iload_n hx hb d_Letters_firstOf_38 rfl (lv_at hl 0 rfl) ?_
    refine lv_bipush (v := (10 : Int32)) hx hb d_Letters_firstOf_39 (by decide) ?_
    refine r_irem hx hb d_Letters_firstOf_41 (by decide) ?_
    refine lv_isub hx hb d_Letters_firstOf_42 ?_
    obtain rfl := Option.some.inj hM
    exact r_iret C hS d_Letters_firstOf_43
  rw [if_neg c1_3] at hM
  refine r_tabD (tgt := 44) hx hb d_Letters_firstOf_1 [0, 1, 2] (List.forall_mem_cons.mpr ⟨lv_neT c1_1 rfl, (List.forall_mem_cons.mpr ⟨lv_neT c1_2 rfl, (List.forall_mem_cons.mpr ⟨lv_neT c1_3 rfl, (List.forall_mem_nil _)⟩)⟩)⟩) (by decide) (by decide) ?_
  refine lv_iload_n hx hb d_Letters_firstOf_44 rfl (lv_at hl 0 rfl) ?_
  obtain rfl := Option.some.inj hM
  exact r_iret C hS d_Letters_firstOf_45
theorem c_Letters_firstOf (l : Launch) (base : Nat) (D : va_G) (cI cZ : ClassId) (h : Hp) (l0 : Int32) (l1 : Int32) {r : Int32} (hM : f_Letters_firstOf l0 l1 = some r) : Ct l base D cI cZ y_Letters_firstOf b_Letters_firstOf 2 (some .int) 0 0 0 0 h [.int l0, .int l1] h (some (.int r)) :=
  ct_of (by decide) (Nat.le_of_ble_eq_true rfl) (fun p e s m below meth c ls C hS hl => t_Letters_firstOf C hM _ _ _ hS hl)
theorem d_Letters_shift_0 : decode b_Letters_shift 0 = .ok (.iload_n 0, 1) := by decide +kernel
theorem d_Letters_shift_1 : decode b_Letters_shift 1 = .ok (.istore_n 3, 1) := by decide +kernel
theorem d_Letters_shift_2 : decode b_Letters_shift 2 = .ok (.iload_n 1, 1) := by decide +kernel
theorem d_Letters_shift_3 : decode b_Letters_shift 3 = .ok (.istore 4, 2) := by decide +kernel
theorem d_Letters_shift_5 : decode b_Letters_shift 5 = .ok (.iload 4, 2) := by decide +kernel
theorem d_Letters_shift_7 : decode b_Letters_shift 7 = .ok (.iload_n 2, 1) := by decide +kernel
theorem d_Letters_shift_8 : decode b_Letters_shift 8 = .ok (.if_icmp .ge 14, 3) := by decide +kernel
theorem d_Letters_shift_11 : decode b_Letters_shift 11 = .ok (.iload_n 3, 1) := by decide +kernel
theorem d_Letters_shift_12 : decode b_Letters_shift 12 = .ok (.bipush 10, 2) := by decide +kernel
theorem d_Letters_shift_14 : decode b_Letters_shift 14 = .ok (.idiv, 1) := by decide +kernel
theorem d_Letters_shift_15 : decode b_Letters_shift 15 = .ok (.istore_n 3, 1) := by decide +kernel
theorem d_Letters_shift_16 : decode b_Letters_shift 16 = .ok (.iinc 4 1, 3) := by decide +kernel
theorem d_Letters_shift_19 : decode b_Letters_shift 19 = .ok (.goto (-14), 3) := by decide +kernel
theorem d_Letters_shift_22 : decode b_Letters_shift 22 = .ok (.iload_n 2, 1) := by decide +kernel
theorem d_Letters_shift_23 : decode b_Letters_shift 23 = .ok (.istore 4, 2) := by decide +kernel
theorem d_Letters_shift_25 : decode b_Letters_shift 25 = .ok (.iload 4, 2) := by decide +kernel
theorem d_Letters_shift_27 : decode b_Letters_shift 27 = .ok (.iload_n 1, 1) := by decide +kernel
theorem d_Letters_shift_28 : decode b_Letters_shift 28 = .ok (.if_icmp .ge 14, 3) := by decide +kernel
theorem d_Letters_shift_31 : decode b_Letters_shift 31 = .ok (.iload_n 3, 1) := by decide +kernel
theorem d_Letters_shift_32 : decode b_Letters_shift 32 = .ok (.bipush 10, 2) := by decide +kernel
theorem d_Letters_shift_34 : decode b_Letters_shift 34 = .ok (.imul, 1) := by decide +kernel
theorem d_Letters_shift_35 : decode b_Letters_shift 35 = .ok (.istore_n 3, 1) := by decide +kernel
theorem d_Letters_shift_36 : decode b_Letters_shift 36 = .ok (.iinc 4 1, 3) := by decide +kernel
theorem d_Letters_shift_39 : decode b_Letters_shift 39 = .ok (.goto (-14), 3) := by decide +kernel
theorem d_Letters_shift_42 : decode b_Letters_shift 42 = .ok (.iload_n 3, 1) := by decide +kernel
theorem d_Letters_shift_43 : decode b_Letters_shift 43 = .ok (.ireturn, 1) := by decide +kernel
def f_Letters_shift_25 (l1 : Int32) : Nat → Int32 → Int32 → Option Int32
  | 0, _, _ => none
  | n + 1, l3, l4 =>
    if l1 ≤ l4 then (
      some l3
    ) else (
      f_Letters_shift_25 l1 n (l3 * (10 : Int32)) (l4 + (1 : Int32))
    )
set_option maxHeartbeats 4000000 in
set_option maxRecDepth 100000 in
theorem t_Letters_shift_25 {h : Hp} {l1 : Int32} {r : Int32} (C : Cx base D cI cZ b_Letters_shift 5 "MovedFolders$Letters" "shift" (some .int) p s m args meth c)  : ∀ (n : Nat) (l3 : Int32) (l4 : Int32), f_Letters_shift_25 l1 n l3 l4 = some r → ∀ (H : Heap) (locs : List Loc) (ls : Array Slot), RS base D cI cZ s H locs h → lv_has ls 5 [(1, .int l1), (3, .int l3), (4, .int l4)] → Wg l base D cI cZ 0 0 0 0 h (some (.int r)) p e s m args below meth c H locs 0 0 (F0 m 25 ls []) := by
  have hx := C.1
  have hb := C.2.1
  intro n
  induction n with
  | zero =>
    intro l3 l4 hM
    rw [f_Letters_shift_25] at hM
    cases hM
  | succ n ih =>
    intro l3 l4 hM H locs ls hS hl
    rw [f_Letters_shift_25] at hM
    refine lv_iload hx hb d_Letters_shift_25 (lv_at hl 2 rfl) ?_
    refine lv_iload_n hx hb d_Letters_shift_27 rfl (lv_at hl 0 rfl) ?_
    refine lv_icmp_ge (tgt := 42) hx hb d_Letters_shift_28 (by decide) (fun c28_2 => ?_) (fun c28_2 => ?_)
    · rw [if_pos c28_2] at hM
      refine lv_iload_n hx hb d_Letters_shift_42 rfl (lv_at hl 1 rfl) ?_
      obtain rfl := Option.some.inj hM
      exact r_iret C hS d_Letters_shift_43
    · rw [if_neg c28_2] at hM
      refine lv_iload_n hx hb d_Letters_shift_31 rfl (lv_at hl 1 rfl) ?_
      refine lv_bipush (v := (10 : Int32)) hx hb d_Letters_shift_32 (by decide) ?_
      refine lv_imul hx hb d_Letters_shift_34 ?_
      refine lv_istore_n (lv' := [(3, .int (l3 * (10 : Int32))), (1, .int l1), (4, .int l4)]) hx hb d_Letters_shift_35 rfl hl (by decide) rfl (fun ls hl => ?_)
      refine lv_iinc (v := (l4 + (1 : Int32))) (lv' := [(4, .int (l4 + (1 : Int32))), (3, .int (l3 * (10 : Int32))), (1, .int l1)]) hx hb d_Letters_shift_36 hl (k := 2) rfl (by rw [oi_1]) (by decide) rfl (fun ls hl => ?_)
      refine lv_goto (tgt := 25) hx hb d_Letters_shift_39 (by decide) ?_
      exact ih (l3 * (10 : Int32)) (l4 + (1 : Int32)) hM _ _ _ hS (lv_sub hl [2, 1, 0] rfl)
def f_Letters_shift_5 (l1 : Int32) (l2 : Int32) : Nat → Int32 → Int32 → Option Int32
  | 0, _, _ => none
  | n + 1, l3, l4 =>
    if l2 ≤ l4 then (
      f_Letters_shift_25 l1 FU l3 l2
    ) else (
      f_Letters_shift_5 l1 l2 n (l3 / (10 : Int32)) (l4 + (1 : Int32))
    )
set_option maxHeartbeats 4000000 in
set_option maxRecDepth 100000 in
theorem t_Letters_shift_5 {h : Hp} {l1 : Int32} {l2 : Int32} {r : Int32} (C : Cx base D cI cZ b_Letters_shift 5 "MovedFolders$Letters" "shift" (some .int) p s m args meth c)  : ∀ (n : Nat) (l3 : Int32) (l4 : Int32), f_Letters_shift_5 l1 l2 n l3 l4 = some r → ∀ (H : Heap) (locs : List Loc) (ls : Array Slot), RS base D cI cZ s H locs h → lv_has ls 5 [(1, .int l1), (2, .int l2), (3, .int l3), (4, .int l4)] → Wg l base D cI cZ 0 0 0 0 h (some (.int r)) p e s m args below meth c H locs 0 0 (F0 m 5 ls []) := by
  have hx := C.1
  have hb := C.2.1
  intro n
  induction n with
  | zero =>
    intro l3 l4 hM
    rw [f_Letters_shift_5] at hM
    cases hM
  | succ n ih =>
    intro l3 l4 hM H locs ls hS hl
    rw [f_Letters_shift_5] at hM
    refine lv_iload hx hb d_Letters_shift_5 (lv_at hl 3 rfl) ?_
    refine lv_iload_n hx hb d_Letters_shift_7 rfl (lv_at hl 1 rfl) ?_
    refine lv_icmp_ge (tgt := 22) hx hb d_Letters_shift_8 (by decide) (fun c8_1 => ?_) (fun c8_1 => ?_)
    · rw [if_pos c8_1] at hM
      refine lv_iload_n hx hb d_Letters_shift_22 rfl (lv_at hl 1 rfl) ?_
      refine lv_istore (lv' := [(4, .int l2), (1, .int l1), (2, .int l2), (3, .int l3)]) hx hb d_Letters_shift_23 hl (by decide) rfl (fun ls hl => ?_)
      exact t_Letters_shift_25  C  FU l3 l2 hM _ _ _ hS (lv_sub hl [1, 3, 0] rfl)
    · rw [if_neg c8_1] at hM
      refine lv_iload_n hx hb d_Letters_shift_11 rfl (lv_at hl 2 rfl) ?_
      refine lv_bipush (v := (10 : Int32)) hx hb d_Letters_shift_12 (by decide) ?_
      refine lv_idiv hx hb d_Letters_shift_14 (by decide) ?_
      refine lv_istore_n (lv' := [(3, .int (l3 / (10 : Int32))), (1, .int l1), (2, .int l2), (4, .int l4)]) hx hb d_Letters_shift_15 rfl hl (by decide) rfl (fun ls hl => ?_)
      refine lv_iinc (v := (l4 + (1 : Int32))) (lv' := [(4, .int (l4 + (1 : Int32))), (3, .int (l3 / (10 : Int32))), (1, .int l1), (2, .int l2)]) hx hb d_Letters_shift_16 hl (k := 3) rfl (by rw [oi_1]) (by decide) rfl (fun ls hl => ?_)
      refine lv_goto (tgt := 5) hx hb d_Letters_shift_19 (by decide) ?_
      exact ih (l3 / (10 : Int32)) (l4 + (1 : Int32)) hM _ _ _ hS (lv_sub hl [2, 3, 1, 0] rfl)
def f_Letters_shift (l0 : Int32) (l1 : Int32) (l2 : Int32) : Option Int32 :=
  f_Letters_shift_5 l1 l2 FU l0 l1
set_option maxHeartbeats 4000000 in
set_option maxRecDepth 100000 in
theorem t_Letters_shift {h : Hp} {l0 : Int32} {l1 : Int32} {l2 : Int32} {r : Int32} (C : Cx base D cI cZ b_Letters_shift 5 "MovedFolders$Letters" "shift" (some .int) p s m args meth c) (hM : f_Letters_shift l0 l1 l2 = some r) (H : Heap) (locs : List Loc) (ls : Array Slot) (hS : RS base D cI cZ s H locs h) (hl : lv_has ls 5 [(0, .int l0), (1, .int l1), (2, .int l2)]) : Wg l base D cI cZ 0 0 0 0 h (some (.int r)) p e s m args below meth c H locs 0 0 (F0 m 0 ls []) := by
  have hx := C.1
  have hb := C.2.1
  unfold f_Letters_shift at hM
  refine lv_iload_n hx hb d_Letters_shift_0 rfl (lv_at hl 0 rfl) ?_
  refine lv_istore_n (lv' := [(3, .int l0), (0, .int l0), (1, .int l1), (2, .int l2)]) hx hb d_Letters_shift_1 rfl hl (by decide) rfl (fun ls hl => ?_)
  refine lv_iload_n hx hb d_Letters_shift_2 rfl (lv_at hl 2 rfl) ?_
  refine lv_istore (lv' := [(4, .int l1), (3, .int l0), (0, .int l0), (1, .int l1), (2, .int l2)]) hx hb d_Letters_shift_3 hl (by decide) rfl (fun ls hl => ?_)
  exact t_Letters_shift_5  C  FU l0 l1 hM _ _ _ hS (lv_sub hl [3, 4, 1, 0] rfl)
theorem c_Letters_shift (l : Launch) (base : Nat) (D : va_G) (cI cZ : ClassId) (h : Hp) (l0 : Int32) (l1 : Int32) (l2 : Int32) {r : Int32} (hM : f_Letters_shift l0 l1 l2 = some r) : Ct l base D cI cZ y_Letters_shift b_Letters_shift 5 (some .int) 0 0 0 0 h [.int l0, .int l1, .int l2] h (some (.int r)) :=
  ct_of (by decide) (Nat.le_of_ble_eq_true rfl) (fun p e s m below meth c ls C hS hl => t_Letters_shift C hM _ _ _ hS hl)
theorem d_Loops_init_0 : decode b_Loops_init 0 = .ok (.aload_n 0, 1) := by decide +kernel
theorem d_Loops_init_1 : decode b_Loops_init 1 = .ok (.invokespecial 3, 3) := by decide +kernel
theorem d_Loops_init_4 : decode b_Loops_init 4 = .ok (.aload_n 0, 1) := by decide +kernel
theorem d_Loops_init_5 : decode b_Loops_init 5 = .ok (.bipush 25, 2) := by decide +kernel
theorem d_Loops_init_7 : decode b_Loops_init 7 = .ok (.newarray .int, 2) := by decide +kernel
theorem d_Loops_init_9 : decode b_Loops_init 9 = .ok (.putfield 9, 3) := by decide +kernel
theorem d_Loops_init_12 : decode b_Loops_init 12 = .ok (.aload_n 0, 1) := by decide +kernel
theorem d_Loops_init_13 : decode b_Loops_init 13 = .ok (.iconst 0, 1) := by decide +kernel
theorem d_Loops_init_14 : decode b_Loops_init 14 = .ok (.putfield 15, 3) := by decide +kernel
theorem d_Loops_init_17 : decode b_Loops_init 17 = .ok (.return_, 1) := by decide +kernel
def f_Loops_init (h : Hp) (l0 : Nat) : Option Hp :=
  ck h 1 l0 (
    (sR (h ++ [.inl (false, 25, fun _ => 0)]) 1 l0 0 h.length).bind fun h1 =>
    (sI h1 1 l0 1 (0 : Int32)).bind fun h2 =>
    some h2
  )
theorem o_Loops_init {h : Hp} {l0 : Nat} {r : Hp} (hM : f_Loops_init h l0 = some r) : isO h 1 l0 = true := by
  unfold f_Loops_init at hM
  exact (ck_some hM).1
set_option maxHeartbeats 4000000 in
set_option maxRecDepth 100000 in
theorem t_Loops_init {h : Hp} {l0 : Nat} {r : Hp} (C : Cx base D cI cZ b_Loops_init 1 "MovedFolders$Loops" "<init>" none p s m args meth c) (hM : f_Loops_init h l0 = some r) (H : Heap) (locs : List Loc) (ls : Array Slot) (hS : RS base D cI cZ s H locs h) (hl : lv_has ls 1 [(0, .ref (base + l0))]) : Wg l base D cI cZ 1 12 1 25 r none p e s m args below meth c H locs 0 0 (F0 m 0 ls []) := by
  have hx := C.1
  have hb := C.2.1
  unfold f_Loops_init at hM
  replace hM := (ck_some hM).2
  refine lv_aload_n hx hb d_Loops_init_0 rfl (lv_at hl 0 rfl) ?_
  refine r_obj C oi_Loops_3 hl.1 rfl ⟨(Nat.le_of_ble_eq_true rfl), (Nat.le_of_ble_eq_true rfl)⟩ d_Loops_init_1 ?_
  refine lv_aload_n hx hb d_Loops_init_4 rfl (lv_at hl 0 rfl) ?_
  refine lv_bipush (v := (25 : Int32)) hx hb d_Loops_init_5 (by decide) ?_
  refine r_newI (N := 25) C hS ac_int (by decide) (by decide) (Nat.le_of_ble_eq_true rfl) (Nat.le_of_ble_eq_true rfl) (Nat.le_of_ble_eq_true rfl) d_Loops_init_7 (fun H hS => ?_)
  obtain ⟨h1, eh1, hM⟩ := bS hM
  refine r_putF C hS fp_Loops_9 (fun q hq => by cases hq; rfl) eh1 rfl rfl d_Loops_init_9 (fun H locs hS => ?_)
  refine lv_aload_n hx hb d_Loops_init_12 rfl (lv_at hl 0 rfl) ?_
  refine lv_iconst (v := (0 : Int32)) hx hb d_Loops_init_13 (by decide) ?_
  obtain ⟨h2, eh2, hM⟩ := bS hM
  refine r_putI C hS fp_Loops_15 eh2 d_Loops_init_14 (fun H locs hS => ?_)
  obtain rfl := Option.some.inj hM
  exact r_vret C hS d_Loops_init_17
theorem c_Loops_init (l : Launch) (base : Nat) (D : va_G) (cI cZ : ClassId) (h : Hp) (l0 : Nat) {r : Hp} (hM : f_Loops_init h l0 = some r) : Ct l base D cI cZ y_Loops_init b_Loops_init 1 none 1 12 1 25 h [.ref (base + l0)] r none :=
  ct_of (by decide) (Nat.le_of_ble_eq_true rfl) (fun p e s m below meth c ls C hS hl => t_Loops_init C hM _ _ _ hS hl)
theorem d_Moves_size_0 : decode b_Moves_size 0 = .ok (.aload_n 0, 1) := by decide +kernel
theorem d_Moves_size_1 : decode b_Moves_size 1 = .ok (.getfield 22, 3) := by decide +kernel
theorem d_Moves_size_4 : decode b_Moves_size 4 = .ok (.ireturn, 1) := by decide +kernel
def f_Moves_size (h : Hp) (l0 : Nat) : Option Int32 :=
  ck h 3 l0 (
    (gI h 3 l0 3).bind fun t1 =>
    some t1
  )
theorem o_Moves_size {h : Hp} {l0 : Nat} {r : Int32} (hM : f_Moves_size h l0 = some r) : isO h 3 l0 = true := by
  unfold f_Moves_size at hM
  exact (ck_some hM).1
set_option maxHeartbeats 4000000 in
set_option maxRecDepth 100000 in
theorem t_Moves_size {h : Hp} {l0 : Nat} {r : Int32} (C : Cx base D cI cZ b_Moves_size 1 "MovedFolders$Moves" "size" (some .int) p s m args meth c) (hM : f_Moves_size h l0 = some r) (H : Heap) (locs : List Loc) (ls : Array Slot) (hS : RS base D cI cZ s H locs h) (hl : lv_has ls 1 [(0, .ref (base + l0))]) : Wg l base D cI cZ 0 0 0 0 h (some (.int r)) p e s m args below meth c H locs 0 0 (F0 m 0 ls []) := by
  have hx := C.1
  have hb := C.2.1
  unfold f_Moves_size at hM
  replace hM := (ck_some hM).2
  refine lv_aload_n hx hb d_Moves_size_0 rfl (lv_at hl 0 rfl) ?_
  obtain ⟨t1, et1, hM⟩ := bS hM
  refine r_getI C hS fl_Moves_22 et1 d_Moves_size_1 ?_
  obtain rfl := Option.some.inj hM
  exact r_iret C hS d_Moves_size_4
theorem c_Moves_size (l : Launch) (base : Nat) (D : va_G) (cI cZ : ClassId) (h : Hp) (l0 : Nat) {r : Int32} (hM : f_Moves_size h l0 = some r) : Ct l base D cI cZ y_Moves_size b_Moves_size 1 (some .int) 0 0 0 0 h [.ref (base + l0)] h (some (.int r)) :=
  ct_of (by decide) (Nat.le_of_ble_eq_true rfl) (fun p e s m below meth c ls C hS hl => t_Moves_size C hM _ _ _ hS hl)
theorem d_Moves_targetAt_0 : decode b_Moves_targetAt 0 = .ok (.iload_n 1, 1) := by decide +kernel
theorem d_Moves_targetAt_1 : decode b_Moves_targetAt 1 = .ok (.ifCond .lt 20, 3) := by decide +kernel
theorem d_Moves_targetAt_4 : decode b_Moves_targetAt 4 = .ok (.iload_n 1, 1) := by decide +kernel
theorem d_Moves_targetAt_5 : decode b_Moves_targetAt 5 = .ok (.aload_n 0, 1) := by decide +kernel
theorem d_Moves_targetAt_6 : decode b_Moves_targetAt 6 = .ok (.getfield 22, 3) := by decide +kernel
theorem d_Moves_targetAt_9 : decode b_Moves_targetAt 9 = .ok (.if_icmp .ge 12, 3) := by decide +kernel
theorem d_Moves_targetAt_12 : decode b_Moves_targetAt 12 = .ok (.aload_n 0, 1) := by decide +kernel
theorem d_Moves_targetAt_13 : decode b_Moves_targetAt 13 = .ok (.getfield 15, 3) := by decide +kernel
theorem d_Moves_targetAt_16 : decode b_Moves_targetAt 16 = .ok (.iload_n 1, 1) := by decide +kernel
theorem d_Moves_targetAt_17 : decode b_Moves_targetAt 17 = .ok (.iaload, 1) := by decide +kernel
theorem d_Moves_targetAt_18 : decode b_Moves_targetAt 18 = .ok (.goto 5, 3) := by decide +kernel
theorem d_Moves_targetAt_21 : decode b_Moves_targetAt 21 = .ok (.bipush (-6), 2) := by decide +kernel
theorem d_Moves_targetAt_23 : decode b_Moves_targetAt 23 = .ok (.ireturn, 1) := by decide +kernel
def f_Moves_targetAt (h : Hp) (l0 : Nat) (l1 : Int32) : Option Int32 :=
  ck h 3 l0 (
    (
      if l1 < (0 : Int32) then (
        some (-6 : Int32)
      ) else (
        (gI h 3 l0 3).bind fun t2 =>
        if t2 ≤ l1 then (
          some (-6 : Int32)
        ) else (
          (gR h 3 l0 1).bind fun t3 =>
          (gA h false t3 l1).bind fun t4 =>
          some t4
        )
      )
    ).bind fun t1 =>
    some t1
  )
theorem o_Moves_targetAt {h : Hp} {l0 : Nat} {l1 : Int32} {r : Int32} (hM : f_Moves_targetAt h l0 l1 = some r) : isO h 3 l0 = true := by
  unfold f_Moves_targetAt at hM
  exact (ck_some hM).1
set_option maxHeartbeats 4000000 in
set_option maxRecDepth 100000 in
theorem t_Moves_targetAt {h : Hp} {l0 : Nat} {l1 : Int32} {r : Int32} (C : Cx base D cI cZ b_Moves_targetAt 2 "MovedFolders$Moves" "targetAt" (some .int) p s m args meth c) (hM : f_Moves_targetAt h l0 l1 = some r) (H : Heap) (locs : List Loc) (ls : Array Slot) (hS : RS base D cI cZ s H locs h) (hl : lv_has ls 2 [(0, .ref (base + l0)), (1, .int l1)]) : Wg l base D cI cZ 0 0 0 0 h (some (.int r)) p e s m args below meth c H locs 0 0 (F0 m 0 ls []) := by
  have hx := C.1
  have hb := C.2.1
  unfold f_Moves_targetAt at hM
  replace hM := (ck_some hM).2
  refine lv_iload_n hx hb d_Moves_targetAt_0 rfl (lv_at hl 1 rfl) ?_
  obtain ⟨t1, et1, hM⟩ := bS hM
  have kJ23_1 : ∀ (H : Heap) (locs : List Loc) (ls : Array Slot), RS base D cI cZ s H locs h → lv_has ls 2 [] → Wg l base D cI cZ 0 0 0 0 h (some (.int r)) p e s m args below meth c H locs 0 0 (F0 m 23 ls [.int t1]) := by
    intro H locs ls hS hl
    obtain rfl := Option.some.inj hM
    exact r_iret C hS d_Moves_targetAt_23
  refine lv_if_lt (tgt := 21) hx hb d_Moves_targetAt_1 (by decide) (fun c1_2 => ?_) (fun c1_2 => ?_)
  · rw [if_pos c1_2] at et1
    refine lv_bipush (v := (-6 : Int32)) hx hb d_Moves_targetAt_21 (by decide) ?_
    obtain rfl := Option.some.inj et1
    exact kJ23_1 _ _ _ hS (lv_sub hl [] rfl)
  · rw [if_neg c1_2] at et1
    refine lv_iload_n hx hb d_Moves_targetAt_4 rfl (lv_at hl 1 rfl) ?_
    refine lv_aload_n hx hb d_Moves_targetAt_5 rfl (lv_at hl 0 rfl) ?_
    obtain ⟨t2, et2, et1⟩ := bS et1
    refine r_getI C hS fl_Moves_22 et2 d_Moves_targetAt_6 ?_
    refine lv_icmp_ge (tgt := 21) hx hb d_Moves_targetAt_9 (by decide) (fun c9_3 => ?_) (fun c9_3 => ?_)
    · rw [if_pos c9_3] at et1
      refine lv_bipush (v := (-6 : Int32)) hx hb d_Moves_targetAt_21 (by decide) ?_
      obtain rfl := Option.some.inj et1
      exact kJ23_1 _ _ _ hS (lv_sub hl [] rfl)
    · rw [if_neg c9_3] at et1
      refine lv_aload_n hx hb d_Moves_targetAt_12 rfl (lv_at hl 0 rfl) ?_
      obtain ⟨t3, et3, et1⟩ := bS et1
      refine r_getR C hS fl_Moves_15 et3 d_Moves_targetAt_13 ?_
      refine lv_iload_n hx hb d_Moves_targetAt_16 rfl (lv_at hl 1 rfl) ?_
      obtain ⟨t4, et4, et1⟩ := bS et1
      refine r_iald C hS et4 d_Moves_targetAt_17 ?_
      refine lv_goto (tgt := 23) hx hb d_Moves_targetAt_18 (by decide) ?_
      obtain rfl := Option.some.inj et1
      exact kJ23_1 _ _ _ hS (lv_sub hl [] rfl)
theorem c_Moves_targetAt (l : Launch) (base : Nat) (D : va_G) (cI cZ : ClassId) (h : Hp) (l0 : Nat) (l1 : Int32) {r : Int32} (hM : f_Moves_targetAt h l0 l1 = some r) : Ct l base D cI cZ y_Moves_targetAt b_Moves_targetAt 2 (some .int) 0 0 0 0 h [.ref (base + l0), .int l1] h (some (.int r)) :=
  ct_of (by decide) (Nat.le_of_ble_eq_true rfl) (fun p e s m below meth c ls C hS hl => t_Moves_targetAt C hM _ _ _ hS hl)
theorem d_Loops_isReached_0 : decode b_Loops_isReached 0 = .ok (.iconst 0, 1) := by decide +kernel
theorem d_Loops_isReached_1 : decode b_Loops_isReached 1 = .ok (.istore_n 2, 1) := by decide +kernel
theorem d_Loops_isReached_2 : decode b_Loops_isReached 2 = .ok (.iload_n 2, 1) := by decide +kernel
theorem d_Loops_isReached_3 : decode b_Loops_isReached 3 = .ok (.aload_n 0, 1) := by decide +kernel
theorem d_Loops_isReached_4 : decode b_Loops_isReached 4 = .ok (.getfield 15, 3) := by decide +kernel
theorem d_Loops_isReached_7 : decode b_Loops_isReached 7 = .ok (.if_icmp .ge 21, 3) := by decide +kernel
theorem d_Loops_isReached_10 : decode b_Loops_isReached 10 = .ok (.aload_n 0, 1) := by decide +kernel
theorem d_Loops_isReached_11 : decode b_Loops_isReached 11 = .ok (.getfield 9, 3) := by decide +kernel
theorem d_Loops_isReached_14 : decode b_Loops_isReached 14 = .ok (.iload_n 2, 1) := by decide +kernel
theorem d_Loops_isReached_15 : decode b_Loops_isReached 15 = .ok (.iaload, 1) := by decide +kernel
theorem d_Loops_isReached_16 : decode b_Loops_isReached 16 = .ok (.iload_n 1, 1) := by decide +kernel
theorem d_Loops_isReached_17 : decode b_Loops_isReached 17 = .ok (.if_icmp .ne 5, 3) := by decide +kernel
theorem d_Loops_isReached_20 : decode b_Loops_isReached 20 = .ok (.iconst 1, 1) := by decide +kernel
theorem d_Loops_isReached_21 : decode b_Loops_isReached 21 = .ok (.ireturn, 1) := by decide +kernel
theorem d_Loops_isReached_22 : decode b_Loops_isReached 22 = .ok (.iinc 2 1, 3) := by decide +kernel
theorem d_Loops_isReached_25 : decode b_Loops_isReached 25 = .ok (.goto (-23), 3) := by decide +kernel
theorem d_Loops_isReached_28 : decode b_Loops_isReached 28 = .ok (.iconst 0, 1) := by decide +kernel
theorem d_Loops_isReached_29 : decode b_Loops_isReached 29 = .ok (.ireturn, 1) := by decide +kernel
def f_Loops_isReached_2 (h : Hp) (l0 : Nat) (l1 : Int32) : Nat → Int32 → Option Int32
  | 0, _ => none
  | n + 1, l2 =>
    (gI h 1 l0 1).bind fun t1 =>
    if t1 ≤ l2 then (
      rz (0 : Int32)
    ) else (
      (gR h 1 l0 0).bind fun t2 =>
      (gA h false t2 l2).bind fun t3 =>
      if t3 = l1 then (
        rz (1 : Int32)
      ) else (
        f_Loops_isReached_2 h l0 l1 n (l2 + (1 : Int32))
      )
    )
set_option maxHeartbeats 4000000 in
set_option maxRecDepth 100000 in
theorem t_Loops_isReached_2 {h : Hp} {l0 : Nat} {l1 : Int32} {r : Int32} (C : Cx base D cI cZ b_Loops_isReached 3 "MovedFolders$Loops" "isReached" (some .boolean) p s m args meth c)  : ∀ (n : Nat) (l2 : Int32), f_Loops_isReached_2 h l0 l1 n l2 = some r → ∀ (H : Heap) (locs : List Loc) (ls : Array Slot), RS base D cI cZ s H locs h → lv_has ls 3 [(0, .ref (base + l0)), (1, .int l1), (2, .int l2)] → Wg l base D cI cZ 0 0 0 0 h (some (.int r)) p e s m args below meth c H locs 0 0 (F0 m 2 ls []) := by
  have hx := C.1
  have hb := C.2.1
  intro n
  induction n with
  | zero =>
    intro l2 hM
    rw [f_Loops_isReached_2] at hM
    cases hM
  | succ n ih =>
    intro l2 hM H locs ls hS hl
    rw [f_Loops_isReached_2] at hM
    refine lv_iload_n hx hb d_Loops_isReached_2 rfl (lv_at hl 2 rfl) ?_
    refine lv_aload_n hx hb d_Loops_isReached_3 rfl (lv_at hl 0 rfl) ?_
    obtain ⟨t1, et1, hM⟩ := bS hM
    refine r_getI C hS fl_Loops_15 et1 d_Loops_isReached_4 ?_
    refine lv_icmp_ge (tgt := 28) hx hb d_Loops_isReached_7 (by decide) (fun c7_1 => ?_) (fun c7_1 => ?_)
    · rw [if_pos c7_1] at hM
      refine lv_iconst (v := (0 : Int32)) hx hb d_Loops_isReached_28 (by decide) ?_
      exact r_zret C hS hM d_Loops_isReached_29
    · rw [if_neg c7_1] at hM
      refine lv_aload_n hx hb d_Loops_isReached_10 rfl (lv_at hl 0 rfl) ?_
      obtain ⟨t2, et2, hM⟩ := bS hM
      refine r_getR C hS fl_Loops_9 et2 d_Loops_isReached_11 ?_
      refine lv_iload_n hx hb d_Loops_isReached_14 rfl (lv_at hl 2 rfl) ?_
      obtain ⟨t3, et3, hM⟩ := bS hM
      refine r_iald C hS et3 d_Loops_isReached_15 ?_
      refine lv_iload_n hx hb d_Loops_isReached_16 rfl (lv_at hl 1 rfl) ?_
      refine lv_icmp_ne (tgt := 22) hx hb d_Loops_isReached_17 (by decide) (fun c17_2 => ?_) (fun c17_2 => ?_)
      · rw [if_neg c17_2] at hM
        refine lv_iinc (v := (l2 + (1 : Int32))) (lv' := [(2, .int (l2 + (1 : Int32))), (0, .ref (base + l0)), (1, .int l1)]) hx hb d_Loops_isReached_22 hl (k := 2) rfl (by rw [oi_1]) (by decide) rfl (fun ls hl => ?_)
        refine lv_goto (tgt := 2) hx hb d_Loops_isReached_25 (by decide) ?_
        exact ih (l2 + (1 : Int32)) hM _ _ _ hS (lv_sub hl [1, 2, 0] rfl)
      · rw [if_pos c17_2] at hM
        refine lv_iconst (v := (1 : Int32)) hx hb d_Loops_isReached_20 (by decide) ?_
        exact r_zret C hS hM d_Loops_isReached_21
def f_Loops_isReached (h : Hp) (l0 : Nat) (l1 : Int32) : Option Int32 :=
  ck h 1 l0 (
    f_Loops_isReached_2 h l0 l1 FU (0 : Int32)
  )
theorem o_Loops_isReached {h : Hp} {l0 : Nat} {l1 : Int32} {r : Int32} (hM : f_Loops_isReached h l0 l1 = some r) : isO h 1 l0 = true := by
  unfold f_Loops_isReached at hM
  exact (ck_some hM).1
set_option maxHeartbeats 4000000 in
set_option maxRecDepth 100000 in
theorem t_Loops_isReached {h : Hp} {l0 : Nat} {l1 : Int32} {r : Int32} (C : Cx base D cI cZ b_Loops_isReached 3 "MovedFolders$Loops" "isReached" (some .boolean) p s m args meth c) (hM : f_Loops_isReached h l0 l1 = some r) (H : Heap) (locs : List Loc) (ls : Array Slot) (hS : RS base D cI cZ s H locs h) (hl : lv_has ls 3 [(0, .ref (base + l0)), (1, .int l1)]) : Wg l base D cI cZ 0 0 0 0 h (some (.int r)) p e s m args below meth c H locs 0 0 (F0 m 0 ls []) := by
  have hx := C.1
  have hb := C.2.1
  unfold f_Loops_isReached at hM
  replace hM := (ck_some hM).2
  refine lv_iconst (v := (0 : Int32)) hx hb d_Loops_isReached_0 (by decide) ?_
  refine lv_istore_n (lv' := [(2, .int (0 : Int32)), (0, .ref (base + l0)), (1, .int l1)]) hx hb d_Loops_isReached_1 rfl hl (by decide) rfl (fun ls hl => ?_)
  exact t_Loops_isReached_2  C  FU (0 : Int32) hM _ _ _ hS (lv_sub hl [1, 2, 0] rfl)
theorem c_Loops_isReached (l : Launch) (base : Nat) (D : va_G) (cI cZ : ClassId) (h : Hp) (l0 : Nat) (l1 : Int32) {r : Int32} (hM : f_Loops_isReached h l0 l1 = some r) : Ct l base D cI cZ y_Loops_isReached b_Loops_isReached 3 (some .boolean) 0 0 0 0 h [.ref (base + l0), .int l1] h (some (.int r)) :=
  ct_of (by decide) (Nat.le_of_ble_eq_true rfl) (fun p e s m below meth c ls C hS hl => t_Loops_isReached C hM _ _ _ hS hl)
theorem d_Loops_add_0 : decode b_Loops_add 0 = .ok (.iload_n 1, 1) := by decide +kernel
theorem d_Loops_add_1 : decode b_Loops_add 1 = .ok (.bipush (-6), 2) := by decide +kernel
theorem d_Loops_add_3 : decode b_Loops_add 3 = .ok (.if_icmp .eq 43, 3) := by decide +kernel
theorem d_Loops_add_6 : decode b_Loops_add 6 = .ok (.aload_n 0, 1) := by decide +kernel
theorem d_Loops_add_7 : decode b_Loops_add 7 = .ok (.getfield 15, 3) := by decide +kernel
theorem d_Loops_add_10 : decode b_Loops_add 10 = .ok (.aload_n 0, 1) := by decide +kernel
theorem d_Loops_add_11 : decode b_Loops_add 11 = .ok (.getfield 9, 3) := by decide +kernel
theorem d_Loops_add_14 : decode b_Loops_add 14 = .ok (.arraylength, 1) := by decide +kernel
theorem d_Loops_add_15 : decode b_Loops_add 15 = .ok (.if_icmp .ge 31, 3) := by decide +kernel
theorem d_Loops_add_18 : decode b_Loops_add 18 = .ok (.aload_n 0, 1) := by decide +kernel
theorem d_Loops_add_19 : decode b_Loops_add 19 = .ok (.iload_n 1, 1) := by decide +kernel
theorem d_Loops_add_20 : decode b_Loops_add 20 = .ok (.invokevirtual 40, 3) := by decide +kernel
theorem d_Loops_add_23 : decode b_Loops_add 23 = .ok (.ifCond .ne 23, 3) := by decide +kernel
theorem d_Loops_add_26 : decode b_Loops_add 26 = .ok (.aload_n 0, 1) := by decide +kernel
theorem d_Loops_add_27 : decode b_Loops_add 27 = .ok (.getfield 9, 3) := by decide +kernel
theorem d_Loops_add_30 : decode b_Loops_add 30 = .ok (.aload_n 0, 1) := by decide +kernel
theorem d_Loops_add_31 : decode b_Loops_add 31 = .ok (.getfield 15, 3) := by decide +kernel
theorem d_Loops_add_34 : decode b_Loops_add 34 = .ok (.iload_n 1, 1) := by decide +kernel
theorem d_Loops_add_35 : decode b_Loops_add 35 = .ok (.iastore, 1) := by decide +kernel
theorem d_Loops_add_36 : decode b_Loops_add 36 = .ok (.aload_n 0, 1) := by decide +kernel
theorem d_Loops_add_37 : decode b_Loops_add 37 = .ok (.dup, 1) := by decide +kernel
theorem d_Loops_add_38 : decode b_Loops_add 38 = .ok (.getfield 15, 3) := by decide +kernel
theorem d_Loops_add_41 : decode b_Loops_add 41 = .ok (.iconst 1, 1) := by decide +kernel
theorem d_Loops_add_42 : decode b_Loops_add 42 = .ok (.iadd, 1) := by decide +kernel
theorem d_Loops_add_43 : decode b_Loops_add 43 = .ok (.putfield 15, 3) := by decide +kernel
theorem d_Loops_add_46 : decode b_Loops_add 46 = .ok (.return_, 1) := by decide +kernel
def f_Loops_add (h : Hp) (l0 : Nat) (l1 : Int32) : Option Hp :=
  ck h 1 l0 (
    (
      if l1 = (-6 : Int32) then (
        some h
      ) else (
        (gI h 1 l0 1).bind fun t2 =>
        (gR h 1 l0 0).bind fun t3 =>
        (lA h t3).bind fun t4 =>
        if t4 ≤ t2 then (
          some h
        ) else (
          (f_Loops_isReached h l0 l1).bind fun t5 =>
          if t5 = (0 : Int32) then (
            (gR h 1 l0 0).bind fun t6 =>
            (gI h 1 l0 1).bind fun t7 =>
            (sA h t6 t7 l1).bind fun h8 =>
            (gI h8 1 l0 1).bind fun t9 =>
            (sI h8 1 l0 1 (t9 + (1 : Int32))).bind fun h10 =>
            some h10
          ) else (
            some h
          )
        )
      )
    ).bind fun h1 =>
    some h1
  )
theorem o_Loops_add {h : Hp} {l0 : Nat} {l1 : Int32} {r : Hp} (hM : f_Loops_add h l0 l1 = some r) : isO h 1 l0 = true := by
  unfold f_Loops_add at hM
  exact (ck_some hM).1
set_option maxHeartbeats 4000000 in
set_option maxRecDepth 100000 in
theorem t_Loops_add {h : Hp} {l0 : Nat} {l1 : Int32} {r : Hp} (C : Cx base D cI cZ b_Loops_add 2 "MovedFolders$Loops" "add" none p s m args meth c) (hM : f_Loops_add h l0 l1 = some r) (H : Heap) (locs : List Loc) (ls : Array Slot) (hS : RS base D cI cZ s H locs h) (hl : lv_has ls 2 [(0, .ref (base + l0)), (1, .int l1)]) : Wg l base D cI cZ 1 22 0 0 r none p e s m args below meth c H locs 0 0 (F0 m 0 ls []) := by
  have hx := C.1
  have hb := C.2.1
  unfold f_Loops_add at hM
  replace hM := (ck_some hM).2
  refine lv_iload_n hx hb d_Loops_add_0 rfl (lv_at hl 1 rfl) ?_
  refine lv_bipush (v := (-6 : Int32)) hx hb d_Loops_add_1 (by decide) ?_
  obtain ⟨h1, eh1, hM⟩ := bS hM
  have kJ46_1 : ∀ (H : Heap) (locs : List Loc) (ls : Array Slot), RS base D cI cZ s H locs h1 → lv_has ls 2 [] → Wg l base D cI cZ 1 22 0 0 r none p e s m args below meth c H locs 0 0 (F0 m 46 ls []) := by
    intro H locs ls hS hl
    obtain rfl := Option.some.inj hM
    exact r_vret C hS d_Loops_add_46
  refine lv_icmp_eq (tgt := 46) hx hb d_Loops_add_3 (by decide) (fun c3_2 => ?_) (fun c3_2 => ?_)
  · rw [if_pos c3_2] at eh1
    obtain rfl := Option.some.inj eh1
    exact kJ46_1 _ _ _ hS (lv_sub hl [] rfl)
  · rw [if_neg c3_2] at eh1
    refine lv_aload_n hx hb d_Loops_add_6 rfl (lv_at hl 0 rfl) ?_
    obtain ⟨t2, et2, eh1⟩ := bS eh1
    refine r_getI C hS fl_Loops_15 et2 d_Loops_add_7 ?_
    refine lv_aload_n hx hb d_Loops_add_10 rfl (lv_at hl 0 rfl) ?_
    obtain ⟨t3, et3, eh1⟩ := bS eh1
    refine r_getR C hS fl_Loops_9 et3 d_Loops_add_11 ?_
    obtain ⟨t4, et4, eh1⟩ := bS eh1
    refine r_alen C hS et4 d_Loops_add_14 ?_
    refine lv_icmp_ge (tgt := 46) hx hb d_Loops_add_15 (by decide) (fun c15_3 => ?_) (fun c15_3 => ?_)
    · rw [if_pos c15_3] at eh1
      obtain rfl := Option.some.inj eh1
      exact kJ46_1 _ _ _ hS (lv_sub hl [] rfl)
    · rw [if_neg c15_3] at eh1
      refine lv_aload_n hx hb d_Loops_add_18 rfl (lv_at hl 0 rfl) ?_
      refine lv_iload_n hx hb d_Loops_add_19 rfl (lv_at hl 1 rfl) ?_
      obtain ⟨t5, et5, eh1⟩ := bS eh1
      refine r_callVi (x := t5) C hS cv_Loops_40 (c_Loops_isReached l base D cI cZ h l0 l1 et5) (o_Loops_isReached et5) (rest := []) rfl hl.1 rfl (Nat.le_of_ble_eq_true rfl) ⟨(Nat.le_of_ble_eq_true rfl), (Nat.le_of_ble_eq_true rfl)⟩ ⟨(Nat.le_of_ble_eq_true rfl), (Nat.le_of_ble_eq_true rfl)⟩ d_Loops_add_20 (fun H locs hS => ?_)
      refine lv_if_ne (tgt := 46) hx hb d_Loops_add_23 (by decide) (fun c23_4 => ?_) (fun c23_4 => ?_)
      · rw [if_neg c23_4] at eh1
        obtain rfl := Option.some.inj eh1
        exact kJ46_1 _ _ _ hS (lv_sub hl [] rfl)
      · rw [if_pos c23_4] at eh1
        refine lv_aload_n hx hb d_Loops_add_26 rfl (lv_at hl 0 rfl) ?_
        obtain ⟨t6, et6, eh1⟩ := bS eh1
        refine r_getR C hS fl_Loops_9 et6 d_Loops_add_27 ?_
        refine lv_aload_n hx hb d_Loops_add_30 rfl (lv_at hl 0 rfl) ?_
        obtain ⟨t7, et7, eh1⟩ := bS eh1
        refine r_getI C hS fl_Loops_15 et7 d_Loops_add_31 ?_
        refine lv_iload_n hx hb d_Loops_add_34 rfl (lv_at hl 1 rfl) ?_
        obtain ⟨h8, eh8, eh1⟩ := bS eh1
        refine r_iast C hS eh8 d_Loops_add_35 (fun H locs hS => ?_)
        refine lv_aload_n hx hb d_Loops_add_36 rfl (lv_at hl 0 rfl) ?_
        refine lv_dup hx hb d_Loops_add_37 rfl ?_
        obtain ⟨t9, et9, eh1⟩ := bS eh1
        refine r_getI C hS fl_Loops_15 et9 d_Loops_add_38 ?_
        refine lv_iconst (v := (1 : Int32)) hx hb d_Loops_add_41 (by decide) ?_
        refine lv_iadd hx hb d_Loops_add_42 ?_
        obtain ⟨h10, eh10, eh1⟩ := bS eh1
        refine r_putI C hS fp_Loops_15 eh10 d_Loops_add_43 (fun H locs hS => ?_)
        obtain rfl := Option.some.inj eh1
        exact kJ46_1 _ _ _ hS (lv_sub hl [] rfl)
theorem c_Loops_add (l : Launch) (base : Nat) (D : va_G) (cI cZ : ClassId) (h : Hp) (l0 : Nat) (l1 : Int32) {r : Hp} (hM : f_Loops_add h l0 l1 = some r) : Ct l base D cI cZ y_Loops_add b_Loops_add 2 none 1 22 0 0 h [.ref (base + l0), .int l1] r none :=
  ct_of (by decide) (Nat.le_of_ble_eq_true rfl) (fun p e s m below meth c ls C hS hl => t_Loops_add C hM _ _ _ hS hl)
theorem d_Moves_placeOf_0 : decode b_Moves_placeOf 0 = .ok (.iconst 0, 1) := by decide +kernel
theorem d_Moves_placeOf_1 : decode b_Moves_placeOf 1 = .ok (.istore_n 2, 1) := by decide +kernel
theorem d_Moves_placeOf_2 : decode b_Moves_placeOf 2 = .ok (.iload_n 2, 1) := by decide +kernel
theorem d_Moves_placeOf_3 : decode b_Moves_placeOf 3 = .ok (.aload_n 0, 1) := by decide +kernel
theorem d_Moves_placeOf_4 : decode b_Moves_placeOf 4 = .ok (.getfield 22, 3) := by decide +kernel
theorem d_Moves_placeOf_7 : decode b_Moves_placeOf 7 = .ok (.if_icmp .ge 21, 3) := by decide +kernel
theorem d_Moves_placeOf_10 : decode b_Moves_placeOf 10 = .ok (.aload_n 0, 1) := by decide +kernel
theorem d_Moves_placeOf_11 : decode b_Moves_placeOf 11 = .ok (.getfield 9, 3) := by decide +kernel
theorem d_Moves_placeOf_14 : decode b_Moves_placeOf 14 = .ok (.iload_n 2, 1) := by decide +kernel
theorem d_Moves_placeOf_15 : decode b_Moves_placeOf 15 = .ok (.iaload, 1) := by decide +kernel
theorem d_Moves_placeOf_16 : decode b_Moves_placeOf 16 = .ok (.iload_n 1, 1) := by decide +kernel
theorem d_Moves_placeOf_17 : decode b_Moves_placeOf 17 = .ok (.if_icmp .ne 5, 3) := by decide +kernel
theorem d_Moves_placeOf_20 : decode b_Moves_placeOf 20 = .ok (.iload_n 2, 1) := by decide +kernel
theorem d_Moves_placeOf_21 : decode b_Moves_placeOf 21 = .ok (.ireturn, 1) := by decide +kernel
theorem d_Moves_placeOf_22 : decode b_Moves_placeOf 22 = .ok (.iinc 2 1, 3) := by decide +kernel
theorem d_Moves_placeOf_25 : decode b_Moves_placeOf 25 = .ok (.goto (-23), 3) := by decide +kernel
theorem d_Moves_placeOf_28 : decode b_Moves_placeOf 28 = .ok (.bipush (-6), 2) := by decide +kernel
theorem d_Moves_placeOf_30 : decode b_Moves_placeOf 30 = .ok (.ireturn, 1) := by decide +kernel
def f_Moves_placeOf_2 (h : Hp) (l0 : Nat) (l1 : Int32) : Nat → Int32 → Option Int32
  | 0, _ => none
  | n + 1, l2 =>
    (gI h 3 l0 3).bind fun t1 =>
    if t1 ≤ l2 then (
      some (-6 : Int32)
    ) else (
      (gR h 3 l0 0).bind fun t2 =>
      (gA h false t2 l2).bind fun t3 =>
      if t3 = l1 then (
        some l2
      ) else (
        f_Moves_placeOf_2 h l0 l1 n (l2 + (1 : Int32))
      )
    )
set_option maxHeartbeats 4000000 in
set_option maxRecDepth 100000 in
theorem t_Moves_placeOf_2 {h : Hp} {l0 : Nat} {l1 : Int32} {r : Int32} (C : Cx base D cI cZ b_Moves_placeOf 3 "MovedFolders$Moves" "placeOf" (some .int) p s m args meth c)  : ∀ (n : Nat) (l2 : Int32), f_Moves_placeOf_2 h l0 l1 n l2 = some r → ∀ (H : Heap) (locs : List Loc) (ls : Array Slot), RS base D cI cZ s H locs h → lv_has ls 3 [(0, .ref (base + l0)), (1, .int l1), (2, .int l2)] → Wg l base D cI cZ 0 0 0 0 h (some (.int r)) p e s m args below meth c H locs 0 0 (F0 m 2 ls []) := by
  have hx := C.1
  have hb := C.2.1
  intro n
  induction n with
  | zero =>
    intro l2 hM
    rw [f_Moves_placeOf_2] at hM
    cases hM
  | succ n ih =>
    intro l2 hM H locs ls hS hl
    rw [f_Moves_placeOf_2] at hM
    refine lv_iload_n hx hb d_Moves_placeOf_2 rfl (lv_at hl 2 rfl) ?_
    refine lv_aload_n hx hb d_Moves_placeOf_3 rfl (lv_at hl 0 rfl) ?_
    obtain ⟨t1, et1, hM⟩ := bS hM
    refine r_getI C hS fl_Moves_22 et1 d_Moves_placeOf_4 ?_
    refine lv_icmp_ge (tgt := 28) hx hb d_Moves_placeOf_7 (by decide) (fun c7_1 => ?_) (fun c7_1 => ?_)
    · rw [if_pos c7_1] at hM
      refine lv_bipush (v := (-6 : Int32)) hx hb d_Moves_placeOf_28 (by decide) ?_
      obtain rfl := Option.some.inj hM
      exact r_iret C hS d_Moves_placeOf_30
    · rw [if_neg c7_1] at hM
      refine lv_aload_n hx hb d_Moves_placeOf_10 rfl (lv_at hl 0 rfl) ?_
      obtain ⟨t2, et2, hM⟩ := bS hM
      refine r_getR C hS fl_Moves_9 et2 d_Moves_placeOf_11 ?_
      refine lv_iload_n hx hb d_Moves_placeOf_14 rfl (lv_at hl 2 rfl) ?_
      obtain ⟨t3, et3, hM⟩ := bS hM
      refine r_iald C hS et3 d_Moves_placeOf_15 ?_
      refine lv_iload_n hx hb d_Moves_placeOf_16 rfl (lv_at hl 1 rfl) ?_
      refine lv_icmp_ne (tgt := 22) hx hb d_Moves_placeOf_17 (by decide) (fun c17_2 => ?_) (fun c17_2 => ?_)
      · rw [if_neg c17_2] at hM
        refine lv_iinc (v := (l2 + (1 : Int32))) (lv' := [(2, .int (l2 + (1 : Int32))), (0, .ref (base + l0)), (1, .int l1)]) hx hb d_Moves_placeOf_22 hl (k := 2) rfl (by rw [oi_1]) (by decide) rfl (fun ls hl => ?_)
        refine lv_goto (tgt := 2) hx hb d_Moves_placeOf_25 (by decide) ?_
        exact ih (l2 + (1 : Int32)) hM _ _ _ hS (lv_sub hl [1, 2, 0] rfl)
      · rw [if_pos c17_2] at hM
        refine lv_iload_n hx hb d_Moves_placeOf_20 rfl (lv_at hl 2 rfl) ?_
        obtain rfl := Option.some.inj hM
        exact r_iret C hS d_Moves_placeOf_21
def f_Moves_placeOf (h : Hp) (l0 : Nat) (l1 : Int32) : Option Int32 :=
  ck h 3 l0 (
    f_Moves_placeOf_2 h l0 l1 FU (0 : Int32)
  )
theorem o_Moves_placeOf {h : Hp} {l0 : Nat} {l1 : Int32} {r : Int32} (hM : f_Moves_placeOf h l0 l1 = some r) : isO h 3 l0 = true := by
  unfold f_Moves_placeOf at hM
  exact (ck_some hM).1
set_option maxHeartbeats 4000000 in
set_option maxRecDepth 100000 in
theorem t_Moves_placeOf {h : Hp} {l0 : Nat} {l1 : Int32} {r : Int32} (C : Cx base D cI cZ b_Moves_placeOf 3 "MovedFolders$Moves" "placeOf" (some .int) p s m args meth c) (hM : f_Moves_placeOf h l0 l1 = some r) (H : Heap) (locs : List Loc) (ls : Array Slot) (hS : RS base D cI cZ s H locs h) (hl : lv_has ls 3 [(0, .ref (base + l0)), (1, .int l1)]) : Wg l base D cI cZ 0 0 0 0 h (some (.int r)) p e s m args below meth c H locs 0 0 (F0 m 0 ls []) := by
  have hx := C.1
  have hb := C.2.1
  unfold f_Moves_placeOf at hM
  replace hM := (ck_some hM).2
  refine lv_iconst (v := (0 : Int32)) hx hb d_Moves_placeOf_0 (by decide) ?_
  refine lv_istore_n (lv' := [(2, .int (0 : Int32)), (0, .ref (base + l0)), (1, .int l1)]) hx hb d_Moves_placeOf_1 rfl hl (by decide) rfl (fun ls hl => ?_)
  exact t_Moves_placeOf_2  C  FU (0 : Int32) hM _ _ _ hS (lv_sub hl [1, 2, 0] rfl)
theorem c_Moves_placeOf (l : Launch) (base : Nat) (D : va_G) (cI cZ : ClassId) (h : Hp) (l0 : Nat) (l1 : Int32) {r : Int32} (hM : f_Moves_placeOf h l0 l1 = some r) : Ct l base D cI cZ y_Moves_placeOf b_Moves_placeOf 3 (some .int) 0 0 0 0 h [.ref (base + l0), .int l1] h (some (.int r)) :=
  ct_of (by decide) (Nat.le_of_ble_eq_true rfl) (fun p e s m below meth c ls C hS hl => t_Moves_placeOf C hM _ _ _ hS hl)
theorem d_Moves_targetOf_0 : decode b_Moves_targetOf 0 = .ok (.aload_n 0, 1) := by decide +kernel
theorem d_Moves_targetOf_1 : decode b_Moves_targetOf 1 = .ok (.aload_n 0, 1) := by decide +kernel
theorem d_Moves_targetOf_2 : decode b_Moves_targetOf 2 = .ok (.iload_n 1, 1) := by decide +kernel
theorem d_Moves_targetOf_3 : decode b_Moves_targetOf 3 = .ok (.invokevirtual 26, 3) := by decide +kernel
theorem d_Moves_targetOf_6 : decode b_Moves_targetOf 6 = .ok (.invokevirtual 30, 3) := by decide +kernel
theorem d_Moves_targetOf_9 : decode b_Moves_targetOf 9 = .ok (.ireturn, 1) := by decide +kernel
def f_Moves_targetOf (h : Hp) (l0 : Nat) (l1 : Int32) : Option Int32 :=
  ck h 3 l0 (
    (f_Moves_placeOf h l0 l1).bind fun t1 =>
    (f_Moves_targetAt h l0 t1).bind fun t2 =>
    some t2
  )
theorem o_Moves_targetOf {h : Hp} {l0 : Nat} {l1 : Int32} {r : Int32} (hM : f_Moves_targetOf h l0 l1 = some r) : isO h 3 l0 = true := by
  unfold f_Moves_targetOf at hM
  exact (ck_some hM).1
set_option maxHeartbeats 4000000 in
set_option maxRecDepth 100000 in
theorem t_Moves_targetOf {h : Hp} {l0 : Nat} {l1 : Int32} {r : Int32} (C : Cx base D cI cZ b_Moves_targetOf 2 "MovedFolders$Moves" "targetOf" (some .int) p s m args meth c) (hM : f_Moves_targetOf h l0 l1 = some r) (H : Heap) (locs : List Loc) (ls : Array Slot) (hS : RS base D cI cZ s H locs h) (hl : lv_has ls 2 [(0, .ref (base + l0)), (1, .int l1)]) : Wg l base D cI cZ 1 22 0 0 h (some (.int r)) p e s m args below meth c H locs 0 0 (F0 m 0 ls []) := by
  have hx := C.1
  have hb := C.2.1
  unfold f_Moves_targetOf at hM
  replace hM := (ck_some hM).2
  refine lv_aload_n hx hb d_Moves_targetOf_0 rfl (lv_at hl 0 rfl) ?_
  refine lv_aload_n hx hb d_Moves_targetOf_1 rfl (lv_at hl 0 rfl) ?_
  refine lv_iload_n hx hb d_Moves_targetOf_2 rfl (lv_at hl 1 rfl) ?_
  obtain ⟨t1, et1, hM⟩ := bS hM
  refine r_callVi (x := t1) C hS cv_Moves_26 (c_Moves_placeOf l base D cI cZ h l0 l1 et1) (o_Moves_placeOf et1) (rest := [.ref (base + l0)]) rfl hl.1 rfl (Nat.le_of_ble_eq_true rfl) ⟨(Nat.le_of_ble_eq_true rfl), (Nat.le_of_ble_eq_true rfl)⟩ ⟨(Nat.le_of_ble_eq_true rfl), (Nat.le_of_ble_eq_true rfl)⟩ d_Moves_targetOf_3 (fun H locs hS => ?_)
  obtain ⟨t2, et2, hM⟩ := bS hM
  refine r_callVi (x := t2) C hS cv_Moves_30 (c_Moves_targetAt l base D cI cZ h l0 t1 et2) (o_Moves_targetAt et2) (rest := []) rfl hl.1 rfl (Nat.le_of_ble_eq_true rfl) ⟨(Nat.le_of_ble_eq_true rfl), (Nat.le_of_ble_eq_true rfl)⟩ ⟨(Nat.le_of_ble_eq_true rfl), (Nat.le_of_ble_eq_true rfl)⟩ d_Moves_targetOf_6 (fun H locs hS => ?_)
  obtain rfl := Option.some.inj hM
  exact r_iret C hS d_Moves_targetOf_9
theorem c_Moves_targetOf (l : Launch) (base : Nat) (D : va_G) (cI cZ : ClassId) (h : Hp) (l0 : Nat) (l1 : Int32) {r : Int32} (hM : f_Moves_targetOf h l0 l1 = some r) : Ct l base D cI cZ y_Moves_targetOf b_Moves_targetOf 2 (some .int) 1 22 0 0 h [.ref (base + l0), .int l1] h (some (.int r)) :=
  ct_of (by decide) (Nat.le_of_ble_eq_true rfl) (fun p e s m below meth c ls C hS hl => t_Moves_targetOf C hM _ _ _ hS hl)
theorem d_Loops_reachFrom_0 : decode b_Loops_reachFrom 0 = .ok (.aload_n 0, 1) := by decide +kernel
theorem d_Loops_reachFrom_1 : decode b_Loops_reachFrom 1 = .ok (.iconst 0, 1) := by decide +kernel
theorem d_Loops_reachFrom_2 : decode b_Loops_reachFrom 2 = .ok (.putfield 15, 3) := by decide +kernel
theorem d_Loops_reachFrom_5 : decode b_Loops_reachFrom 5 = .ok (.aload_n 0, 1) := by decide +kernel
theorem d_Loops_reachFrom_6 : decode b_Loops_reachFrom 6 = .ok (.iload_n 1, 1) := by decide +kernel
theorem d_Loops_reachFrom_7 : decode b_Loops_reachFrom 7 = .ok (.invokevirtual 48, 3) := by decide +kernel
theorem d_Loops_reachFrom_10 : decode b_Loops_reachFrom 10 = .ok (.iconst 0, 1) := by decide +kernel
theorem d_Loops_reachFrom_11 : decode b_Loops_reachFrom 11 = .ok (.istore 4, 2) := by decide +kernel
theorem d_Loops_reachFrom_13 : decode b_Loops_reachFrom 13 = .ok (.iload 4, 2) := by decide +kernel
theorem d_Loops_reachFrom_15 : decode b_Loops_reachFrom 15 = .ok (.aload_n 0, 1) := by decide +kernel
theorem d_Loops_reachFrom_16 : decode b_Loops_reachFrom 16 = .ok (.getfield 9, 3) := by decide +kernel
theorem d_Loops_reachFrom_19 : decode b_Loops_reachFrom 19 = .ok (.arraylength, 1) := by decide +kernel
theorem d_Loops_reachFrom_20 : decode b_Loops_reachFrom 20 = .ok (.if_icmp .ge 48, 3) := by decide +kernel
theorem d_Loops_reachFrom_23 : decode b_Loops_reachFrom 23 = .ok (.iload 4, 2) := by decide +kernel
theorem d_Loops_reachFrom_25 : decode b_Loops_reachFrom 25 = .ok (.aload_n 0, 1) := by decide +kernel
theorem d_Loops_reachFrom_26 : decode b_Loops_reachFrom 26 = .ok (.getfield 15, 3) := by decide +kernel
theorem d_Loops_reachFrom_29 : decode b_Loops_reachFrom 29 = .ok (.if_icmp .ge 39, 3) := by decide +kernel
theorem d_Loops_reachFrom_32 : decode b_Loops_reachFrom 32 = .ok (.aload_n 0, 1) := by decide +kernel
theorem d_Loops_reachFrom_33 : decode b_Loops_reachFrom 33 = .ok (.aload_n 2, 1) := by decide +kernel
theorem d_Loops_reachFrom_34 : decode b_Loops_reachFrom 34 = .ok (.aload_n 0, 1) := by decide +kernel
theorem d_Loops_reachFrom_35 : decode b_Loops_reachFrom 35 = .ok (.getfield 9, 3) := by decide +kernel
theorem d_Loops_reachFrom_38 : decode b_Loops_reachFrom 38 = .ok (.iload 4, 2) := by decide +kernel
theorem d_Loops_reachFrom_40 : decode b_Loops_reachFrom 40 = .ok (.iaload, 1) := by decide +kernel
theorem d_Loops_reachFrom_41 : decode b_Loops_reachFrom 41 = .ok (.invokevirtual 52, 3) := by decide +kernel
theorem d_Loops_reachFrom_44 : decode b_Loops_reachFrom 44 = .ok (.invokevirtual 48, 3) := by decide +kernel
theorem d_Loops_reachFrom_47 : decode b_Loops_reachFrom 47 = .ok (.aload_n 0, 1) := by decide +kernel
theorem d_Loops_reachFrom_48 : decode b_Loops_reachFrom 48 = .ok (.aload_n 3, 1) := by decide +kernel
theorem d_Loops_reachFrom_49 : decode b_Loops_reachFrom 49 = .ok (.aload_n 0, 1) := by decide +kernel
theorem d_Loops_reachFrom_50 : decode b_Loops_reachFrom 50 = .ok (.getfield 9, 3) := by decide +kernel
theorem d_Loops_reachFrom_53 : decode b_Loops_reachFrom 53 = .ok (.iload 4, 2) := by decide +kernel
theorem d_Loops_reachFrom_55 : decode b_Loops_reachFrom 55 = .ok (.iaload, 1) := by decide +kernel
theorem d_Loops_reachFrom_56 : decode b_Loops_reachFrom 56 = .ok (.invokevirtual 52, 3) := by decide +kernel
theorem d_Loops_reachFrom_59 : decode b_Loops_reachFrom 59 = .ok (.invokevirtual 48, 3) := by decide +kernel
theorem d_Loops_reachFrom_62 : decode b_Loops_reachFrom 62 = .ok (.iinc 4 1, 3) := by decide +kernel
theorem d_Loops_reachFrom_65 : decode b_Loops_reachFrom 65 = .ok (.goto (-52), 3) := by decide +kernel
theorem d_Loops_reachFrom_68 : decode b_Loops_reachFrom 68 = .ok (.return_, 1) := by decide +kernel
def f_Loops_reachFrom_13 (l0 : Nat) (l2 : Nat) (l3 : Nat) : Nat → Int32 → Hp → Option Hp
  | 0, _, _ => none
  | n + 1, l4, h =>
    (gR h 1 l0 0).bind fun t3 =>
    (lA h t3).bind fun t4 =>
    if t4 ≤ l4 then (
      some h
    ) else (
      (gI h 1 l0 1).bind fun t5 =>
      if t5 ≤ l4 then (
        some h
      ) else (
        (gR h 1 l0 0).bind fun t6 =>
        (gA h false t6 l4).bind fun t7 =>
        (f_Moves_targetOf h l2 t7).bind fun t8 =>
        (f_Loops_add h l0 t8).bind fun h9 =>
        (gR h9 1 l0 0).bind fun t10 =>
        (gA h9 false t10 l4).bind fun t11 =>
        (f_Moves_targetOf h9 l3 t11).bind fun t12 =>
        (f_Loops_add h9 l0 t12).bind fun h13 =>
        f_Loops_reachFrom_13 l0 l2 l3 n (l4 + (1 : Int32)) h13
      )
    )
set_option maxHeartbeats 4000000 in
set_option maxRecDepth 100000 in
theorem t_Loops_reachFrom_13 {l0 : Nat} {l2 : Nat} {l3 : Nat} {r : Hp} (C : Cx base D cI cZ b_Loops_reachFrom 5 "MovedFolders$Loops" "reachFrom" none p s m args meth c)  : ∀ (n : Nat) (l4 : Int32) (h : Hp), f_Loops_reachFrom_13 l0 l2 l3 n l4 h = some r → ∀ (H : Heap) (locs : List Loc) (ls : Array Slot), RS base D cI cZ s H locs h → lv_has ls 5 [(0, .ref (base + l0)), (2, .ref (base + l2)), (3, .ref (base + l3)), (4, .int l4)] → Wg l base D cI cZ 2 43 0 0 r none p e s m args below meth c H locs 0 0 (F0 m 13 ls []) := by
  have hx := C.1
  have hb := C.2.1
  intro n
  induction n with
  | zero =>
    intro l4 h hM
    rw [f_Loops_reachFrom_13] at hM
    cases hM
  | succ n ih =>
    intro l4 h hM H locs ls hS hl
    rw [f_Loops_reachFrom_13] at hM
    refine lv_iload hx hb d_Loops_reachFrom_13 (lv_at hl 3 rfl) ?_
    refine lv_aload_n hx hb d_Loops_reachFrom_15 rfl (lv_at hl 0 rfl) ?_
    obtain ⟨t3, et3, hM⟩ := bS hM
    refine r_getR C hS fl_Loops_9 et3 d_Loops_reachFrom_16 ?_
    obtain ⟨t4, et4, hM⟩ := bS hM
    refine r_alen C hS et4 d_Loops_reachFrom_19 ?_
    refine lv_icmp_ge (tgt := 68) hx hb d_Loops_reachFrom_20 (by decide) (fun c20_1 => ?_) (fun c20_1 => ?_)
    · rw [if_pos c20_1] at hM
      obtain rfl := Option.some.inj hM
      exact r_vret C hS d_Loops_reachFrom_68
    · rw [if_neg c20_1] at hM
      refine lv_iload hx hb d_Loops_reachFrom_23 (lv_at hl 3 rfl) ?_
      refine lv_aload_n hx hb d_Loops_reachFrom_25 rfl (lv_at hl 0 rfl) ?_
      obtain ⟨t5, et5, hM⟩ := bS hM
      refine r_getI C hS fl_Loops_15 et5 d_Loops_reachFrom_26 ?_
      refine lv_icmp_ge (tgt := 68) hx hb d_Loops_reachFrom_29 (by decide) (fun c29_2 => ?_) (fun c29_2 => ?_)
      · rw [if_pos c29_2] at hM
        obtain rfl := Option.some.inj hM
        exact r_vret C hS d_Loops_reachFrom_68
      · rw [if_neg c29_2] at hM
        refine lv_aload_n hx hb d_Loops_reachFrom_32 rfl (lv_at hl 0 rfl) ?_
        refine lv_aload_n hx hb d_Loops_reachFrom_33 rfl (lv_at hl 1 rfl) ?_
        refine lv_aload_n hx hb d_Loops_reachFrom_34 rfl (lv_at hl 0 rfl) ?_
        obtain ⟨t6, et6, hM⟩ := bS hM
        refine r_getR C hS fl_Loops_9 et6 d_Loops_reachFrom_35 ?_
        refine lv_iload hx hb d_Loops_reachFrom_38 (lv_at hl 3 rfl) ?_
        obtain ⟨t7, et7, hM⟩ := bS hM
        refine r_iald C hS et7 d_Loops_reachFrom_40 ?_
        obtain ⟨t8, et8, hM⟩ := bS hM
        refine r_callVi (x := t8) C hS cv_Loops_52 (c_Moves_targetOf l base D cI cZ h l2 t7 et8) (o_Moves_targetOf et8) (rest := [.ref (base + l0)]) rfl hl.1 rfl (Nat.le_of_ble_eq_true rfl) ⟨(Nat.le_of_ble_eq_true rfl), (Nat.le_of_ble_eq_true rfl)⟩ ⟨(Nat.le_of_ble_eq_true rfl), (Nat.le_of_ble_eq_true rfl)⟩ d_Loops_reachFrom_41 (fun H locs hS => ?_)
        obtain ⟨h9, eh9, hM⟩ := bS hM
        refine r_callVv C hS cv_Loops_48 (c_Loops_add l base D cI cZ h l0 t8 eh9) (o_Loops_add eh9) (rest := []) rfl hl.1 rfl (Nat.le_of_ble_eq_true rfl) ⟨(Nat.le_of_ble_eq_true rfl), (Nat.le_of_ble_eq_true rfl)⟩ ⟨(Nat.le_of_ble_eq_true rfl), (Nat.le_of_ble_eq_true rfl)⟩ d_Loops_reachFrom_44 (fun H locs hS => ?_)
        refine lv_aload_n hx hb d_Loops_reachFrom_47 rfl (lv_at hl 0 rfl) ?_
        refine lv_aload_n hx hb d_Loops_reachFrom_48 rfl (lv_at hl 2 rfl) ?_
        refine lv_aload_n hx hb d_Loops_reachFrom_49 rfl (lv_at hl 0 rfl) ?_
        obtain ⟨t10, et10, hM⟩ := bS hM
        refine r_getR C hS fl_Loops_9 et10 d_Loops_reachFrom_50 ?_
        refine lv_iload hx hb d_Loops_reachFrom_53 (lv_at hl 3 rfl) ?_
        obtain ⟨t11, et11, hM⟩ := bS hM
        refine r_iald C hS et11 d_Loops_reachFrom_55 ?_
        obtain ⟨t12, et12, hM⟩ := bS hM
        refine r_callVi (x := t12) C hS cv_Loops_52 (c_Moves_targetOf l base D cI cZ h9 l3 t11 et12) (o_Moves_targetOf et12) (rest := [.ref (base + l0)]) rfl hl.1 rfl (Nat.le_of_ble_eq_true rfl) ⟨(Nat.le_of_ble_eq_true rfl), (Nat.le_of_ble_eq_true rfl)⟩ ⟨(Nat.le_of_ble_eq_true rfl), (Nat.le_of_ble_eq_true rfl)⟩ d_Loops_reachFrom_56 (fun H locs hS => ?_)
        obtain ⟨h13, eh13, hM⟩ := bS hM
        refine r_callVv C hS cv_Loops_48 (c_Loops_add l base D cI cZ h9 l0 t12 eh13) (o_Loops_add eh13) (rest := []) rfl hl.1 rfl (Nat.le_of_ble_eq_true rfl) ⟨(Nat.le_of_ble_eq_true rfl), (Nat.le_of_ble_eq_true rfl)⟩ ⟨(Nat.le_of_ble_eq_true rfl), (Nat.le_of_ble_eq_true rfl)⟩ d_Loops_reachFrom_59 (fun H locs hS => ?_)
        refine lv_iinc (v := (l4 + (1 : Int32))) (lv' := [(4, .int (l4 + (1 : Int32))), (0, .ref (base + l0)), (2, .ref (base + l2)), (3, .ref (base + l3))]) hx hb d_Loops_reachFrom_62 hl (k := 3) rfl (by rw [oi_1]) (by decide) rfl (fun ls hl => ?_)
        refine lv_goto (tgt := 13) hx hb d_Loops_reachFrom_65 (by decide) ?_
        exact ih (l4 + (1 : Int32)) h13 hM _ _ _ hS (lv_sub hl [1, 2, 3, 0] rfl)
def f_Loops_reachFrom (h : Hp) (l0 : Nat) (l1 : Int32) (l2 : Nat) (l3 : Nat) : Option Hp :=
  ck h 1 l0 (
    (sI h 1 l0 1 (0 : Int32)).bind fun h1 =>
    (f_Loops_add h1 l0 l1).bind fun h2 =>
    f_Loops_reachFrom_13 l0 l2 l3 FU (0 : Int32) h2
  )
theorem o_Loops_reachFrom {h : Hp} {l0 : Nat} {l1 : Int32} {l2 : Nat} {l3 : Nat} {r : Hp} (hM : f_Loops_reachFrom h l0 l1 l2 l3 = some r) : isO h 1 l0 = true := by
  unfold f_Loops_reachFrom at hM
  exact (ck_some hM).1
set_option maxHeartbeats 4000000 in
set_option maxRecDepth 100000 in
theorem t_Loops_reachFrom {h : Hp} {l0 : Nat} {l1 : Int32} {l2 : Nat} {l3 : Nat} {r : Hp} (C : Cx base D cI cZ b_Loops_reachFrom 5 "MovedFolders$Loops" "reachFrom" none p s m args meth c) (hM : f_Loops_reachFrom h l0 l1 l2 l3 = some r) (H : Heap) (locs : List Loc) (ls : Array Slot) (hS : RS base D cI cZ s H locs h) (hl : lv_has ls 5 [(0, .ref (base + l0)), (1, .int l1), (2, .ref (base + l2)), (3, .ref (base + l3))]) : Wg l base D cI cZ 2 43 0 0 r none p e s m args below meth c H locs 0 0 (F0 m 0 ls []) := by
  have hx := C.1
  have hb := C.2.1
  unfold f_Loops_reachFrom at hM
  replace hM := (ck_some hM).2
  refine lv_aload_n hx hb d_Loops_reachFrom_0 rfl (lv_at hl 0 rfl) ?_
  refine lv_iconst (v := (0 : Int32)) hx hb d_Loops_reachFrom_1 (by decide) ?_
  obtain ⟨h1, eh1, hM⟩ := bS hM
  refine r_putI C hS fp_Loops_15 eh1 d_Loops_reachFrom_2 (fun H locs hS => ?_)
  refine lv_aload_n hx hb d_Loops_reachFrom_5 rfl (lv_at hl 0 rfl) ?_
  refine lv_iload_n hx hb d_Loops_reachFrom_6 rfl (lv_at hl 1 rfl) ?_
  obtain ⟨h2, eh2, hM⟩ := bS hM
  refine r_callVv C hS cv_Loops_48 (c_Loops_add l base D cI cZ h1 l0 l1 eh2) (o_Loops_add eh2) (rest := []) rfl hl.1 rfl (Nat.le_of_ble_eq_true rfl) ⟨(Nat.le_of_ble_eq_true rfl), (Nat.le_of_ble_eq_true rfl)⟩ ⟨(Nat.le_of_ble_eq_true rfl), (Nat.le_of_ble_eq_true rfl)⟩ d_Loops_reachFrom_7 (fun H locs hS => ?_)
  refine lv_iconst (v := (0 : Int32)) hx hb d_Loops_reachFrom_10 (by decide) ?_
  refine lv_istore (lv' := [(4, .int (0 : Int32)), (0, .ref (base + l0)), (1, .int l1), (2, .ref (base + l2)), (3, .ref (base + l3))]) hx hb d_Loops_reachFrom_11 hl (by decide) rfl (fun ls hl => ?_)
  exact t_Loops_reachFrom_13  C  FU (0 : Int32) h2 hM _ _ _ hS (lv_sub hl [1, 3, 4, 0] rfl)
theorem c_Loops_reachFrom (l : Launch) (base : Nat) (D : va_G) (cI cZ : ClassId) (h : Hp) (l0 : Nat) (l1 : Int32) (l2 : Nat) (l3 : Nat) {r : Hp} (hM : f_Loops_reachFrom h l0 l1 l2 l3 = some r) : Ct l base D cI cZ y_Loops_reachFrom b_Loops_reachFrom 5 none 2 43 0 0 h [.ref (base + l0), .int l1, .ref (base + l2), .ref (base + l3)] r none :=
  ct_of (by decide) (Nat.le_of_ble_eq_true rfl) (fun p e s m below meth c ls C hS hl => t_Loops_reachFrom C hM _ _ _ hS hl)
theorem d_Moves_startAt_0 : decode b_Moves_startAt 0 = .ok (.iload_n 1, 1) := by decide +kernel
theorem d_Moves_startAt_1 : decode b_Moves_startAt 1 = .ok (.ifCond .lt 20, 3) := by decide +kernel
theorem d_Moves_startAt_4 : decode b_Moves_startAt 4 = .ok (.iload_n 1, 1) := by decide +kernel
theorem d_Moves_startAt_5 : decode b_Moves_startAt 5 = .ok (.aload_n 0, 1) := by decide +kernel
theorem d_Moves_startAt_6 : decode b_Moves_startAt 6 = .ok (.getfield 22, 3) := by decide +kernel
theorem d_Moves_startAt_9 : decode b_Moves_startAt 9 = .ok (.if_icmp .ge 12, 3) := by decide +kernel
theorem d_Moves_startAt_12 : decode b_Moves_startAt 12 = .ok (.aload_n 0, 1) := by decide +kernel
theorem d_Moves_startAt_13 : decode b_Moves_startAt 13 = .ok (.getfield 9, 3) := by decide +kernel
theorem d_Moves_startAt_16 : decode b_Moves_startAt 16 = .ok (.iload_n 1, 1) := by decide +kernel
theorem d_Moves_startAt_17 : decode b_Moves_startAt 17 = .ok (.iaload, 1) := by decide +kernel
theorem d_Moves_startAt_18 : decode b_Moves_startAt 18 = .ok (.goto 5, 3) := by decide +kernel
theorem d_Moves_startAt_21 : decode b_Moves_startAt 21 = .ok (.bipush (-6), 2) := by decide +kernel
theorem d_Moves_startAt_23 : decode b_Moves_startAt 23 = .ok (.ireturn, 1) := by decide +kernel
def f_Moves_startAt (h : Hp) (l0 : Nat) (l1 : Int32) : Option Int32 :=
  ck h 3 l0 (
    (
      if l1 < (0 : Int32) then (
        some (-6 : Int32)
      ) else (
        (gI h 3 l0 3).bind fun t2 =>
        if t2 ≤ l1 then (
          some (-6 : Int32)
        ) else (
          (gR h 3 l0 0).bind fun t3 =>
          (gA h false t3 l1).bind fun t4 =>
          some t4
        )
      )
    ).bind fun t1 =>
    some t1
  )
theorem o_Moves_startAt {h : Hp} {l0 : Nat} {l1 : Int32} {r : Int32} (hM : f_Moves_startAt h l0 l1 = some r) : isO h 3 l0 = true := by
  unfold f_Moves_startAt at hM
  exact (ck_some hM).1
set_option maxHeartbeats 4000000 in
set_option maxRecDepth 100000 in
theorem t_Moves_startAt {h : Hp} {l0 : Nat} {l1 : Int32} {r : Int32} (C : Cx base D cI cZ b_Moves_startAt 2 "MovedFolders$Moves" "startAt" (some .int) p s m args meth c) (hM : f_Moves_startAt h l0 l1 = some r) (H : Heap) (locs : List Loc) (ls : Array Slot) (hS : RS base D cI cZ s H locs h) (hl : lv_has ls 2 [(0, .ref (base + l0)), (1, .int l1)]) : Wg l base D cI cZ 0 0 0 0 h (some (.int r)) p e s m args below meth c H locs 0 0 (F0 m 0 ls []) := by
  have hx := C.1
  have hb := C.2.1
  unfold f_Moves_startAt at hM
  replace hM := (ck_some hM).2
  refine lv_iload_n hx hb d_Moves_startAt_0 rfl (lv_at hl 1 rfl) ?_
  obtain ⟨t1, et1, hM⟩ := bS hM
  have kJ23_1 : ∀ (H : Heap) (locs : List Loc) (ls : Array Slot), RS base D cI cZ s H locs h → lv_has ls 2 [] → Wg l base D cI cZ 0 0 0 0 h (some (.int r)) p e s m args below meth c H locs 0 0 (F0 m 23 ls [.int t1]) := by
    intro H locs ls hS hl
    obtain rfl := Option.some.inj hM
    exact r_iret C hS d_Moves_startAt_23
  refine lv_if_lt (tgt := 21) hx hb d_Moves_startAt_1 (by decide) (fun c1_2 => ?_) (fun c1_2 => ?_)
  · rw [if_pos c1_2] at et1
    refine lv_bipush (v := (-6 : Int32)) hx hb d_Moves_startAt_21 (by decide) ?_
    obtain rfl := Option.some.inj et1
    exact kJ23_1 _ _ _ hS (lv_sub hl [] rfl)
  · rw [if_neg c1_2] at et1
    refine lv_iload_n hx hb d_Moves_startAt_4 rfl (lv_at hl 1 rfl) ?_
    refine lv_aload_n hx hb d_Moves_startAt_5 rfl (lv_at hl 0 rfl) ?_
    obtain ⟨t2, et2, et1⟩ := bS et1
    refine r_getI C hS fl_Moves_22 et2 d_Moves_startAt_6 ?_
    refine lv_icmp_ge (tgt := 21) hx hb d_Moves_startAt_9 (by decide) (fun c9_3 => ?_) (fun c9_3 => ?_)
    · rw [if_pos c9_3] at et1
      refine lv_bipush (v := (-6 : Int32)) hx hb d_Moves_startAt_21 (by decide) ?_
      obtain rfl := Option.some.inj et1
      exact kJ23_1 _ _ _ hS (lv_sub hl [] rfl)
    · rw [if_neg c9_3] at et1
      refine lv_aload_n hx hb d_Moves_startAt_12 rfl (lv_at hl 0 rfl) ?_
      obtain ⟨t3, et3, et1⟩ := bS et1
      refine r_getR C hS fl_Moves_9 et3 d_Moves_startAt_13 ?_
      refine lv_iload_n hx hb d_Moves_startAt_16 rfl (lv_at hl 1 rfl) ?_
      obtain ⟨t4, et4, et1⟩ := bS et1
      refine r_iald C hS et4 d_Moves_startAt_17 ?_
      refine lv_goto (tgt := 23) hx hb d_Moves_startAt_18 (by decide) ?_
      obtain rfl := Option.some.inj et1
      exact kJ23_1 _ _ _ hS (lv_sub hl [] rfl)
theorem c_Moves_startAt (l : Launch) (base : Nat) (D : va_G) (cI cZ : ClassId) (h : Hp) (l0 : Nat) (l1 : Int32) {r : Int32} (hM : f_Moves_startAt h l0 l1 = some r) : Ct l base D cI cZ y_Moves_startAt b_Moves_startAt 2 (some .int) 0 0 0 0 h [.ref (base + l0), .int l1] h (some (.int r)) :=
  ct_of (by decide) (Nat.le_of_ble_eq_true rfl) (fun p e s m below meth c ls C hS hl => t_Moves_startAt C hM _ _ _ hS hl)
theorem d_Moves_markRound_0 : decode b_Moves_markRound 0 = .ok (.iload_n 1, 1) := by decide +kernel
theorem d_Moves_markRound_1 : decode b_Moves_markRound 1 = .ok (.ifCond .lt 18, 3) := by decide +kernel
theorem d_Moves_markRound_4 : decode b_Moves_markRound 4 = .ok (.iload_n 1, 1) := by decide +kernel
theorem d_Moves_markRound_5 : decode b_Moves_markRound 5 = .ok (.aload_n 0, 1) := by decide +kernel
theorem d_Moves_markRound_6 : decode b_Moves_markRound 6 = .ok (.getfield 22, 3) := by decide +kernel
theorem d_Moves_markRound_9 : decode b_Moves_markRound 9 = .ok (.if_icmp .ge 10, 3) := by decide +kernel
theorem d_Moves_markRound_12 : decode b_Moves_markRound 12 = .ok (.aload_n 0, 1) := by decide +kernel
theorem d_Moves_markRound_13 : decode b_Moves_markRound 13 = .ok (.getfield 18, 3) := by decide +kernel
theorem d_Moves_markRound_16 : decode b_Moves_markRound 16 = .ok (.iload_n 1, 1) := by decide +kernel
theorem d_Moves_markRound_17 : decode b_Moves_markRound 17 = .ok (.iload_n 2, 1) := by decide +kernel
theorem d_Moves_markRound_18 : decode b_Moves_markRound 18 = .ok (.bastore, 1) := by decide +kernel
theorem d_Moves_markRound_19 : decode b_Moves_markRound 19 = .ok (.return_, 1) := by decide +kernel
def f_Moves_markRound (h : Hp) (l0 : Nat) (l1 : Int32) (l2 : Int32) : Option Hp :=
  ck h 3 l0 (
    (
      if l1 < (0 : Int32) then (
        some h
      ) else (
        (gI h 3 l0 3).bind fun t2 =>
        if t2 ≤ l1 then (
          some h
        ) else (
          (gR h 3 l0 2).bind fun t3 =>
          (sZ h t3 l1 l2).bind fun h4 =>
          some h4
        )
      )
    ).bind fun h1 =>
    some h1
  )
theorem o_Moves_markRound {h : Hp} {l0 : Nat} {l1 : Int32} {l2 : Int32} {r : Hp} (hM : f_Moves_markRound h l0 l1 l2 = some r) : isO h 3 l0 = true := by
  unfold f_Moves_markRound at hM
  exact (ck_some hM).1
set_option maxHeartbeats 4000000 in
set_option maxRecDepth 100000 in
theorem t_Moves_markRound {h : Hp} {l0 : Nat} {l1 : Int32} {l2 : Int32} {r : Hp} (C : Cx base D cI cZ b_Moves_markRound 3 "MovedFolders$Moves" "markRound" none p s m args meth c) (hM : f_Moves_markRound h l0 l1 l2 = some r) (H : Heap) (locs : List Loc) (ls : Array Slot) (hS : RS base D cI cZ s H locs h) (hl : lv_has ls 3 [(0, .ref (base + l0)), (1, .int l1), (2, .int l2)]) : Wg l base D cI cZ 0 0 0 0 r none p e s m args below meth c H locs 0 0 (F0 m 0 ls []) := by
  have hx := C.1
  have hb := C.2.1
  unfold f_Moves_markRound at hM
  replace hM := (ck_some hM).2
  refine lv_iload_n hx hb d_Moves_markRound_0 rfl (lv_at hl 1 rfl) ?_
  obtain ⟨h1, eh1, hM⟩ := bS hM
  have kJ19_1 : ∀ (H : Heap) (locs : List Loc) (ls : Array Slot), RS base D cI cZ s H locs h1 → lv_has ls 3 [] → Wg l base D cI cZ 0 0 0 0 r none p e s m args below meth c H locs 0 0 (F0 m 19 ls []) := by
    intro H locs ls hS hl
    obtain rfl := Option.some.inj hM
    exact r_vret C hS d_Moves_markRound_19
  refine lv_if_lt (tgt := 19) hx hb d_Moves_markRound_1 (by decide) (fun c1_2 => ?_) (fun c1_2 => ?_)
  · rw [if_pos c1_2] at eh1
    obtain rfl := Option.some.inj eh1
    exact kJ19_1 _ _ _ hS (lv_sub hl [] rfl)
  · rw [if_neg c1_2] at eh1
    refine lv_iload_n hx hb d_Moves_markRound_4 rfl (lv_at hl 1 rfl) ?_
    refine lv_aload_n hx hb d_Moves_markRound_5 rfl (lv_at hl 0 rfl) ?_
    obtain ⟨t2, et2, eh1⟩ := bS eh1
    refine r_getI C hS fl_Moves_22 et2 d_Moves_markRound_6 ?_
    refine lv_icmp_ge (tgt := 19) hx hb d_Moves_markRound_9 (by decide) (fun c9_3 => ?_) (fun c9_3 => ?_)
    · rw [if_pos c9_3] at eh1
      obtain rfl := Option.some.inj eh1
      exact kJ19_1 _ _ _ hS (lv_sub hl [] rfl)
    · rw [if_neg c9_3] at eh1
      refine lv_aload_n hx hb d_Moves_markRound_12 rfl (lv_at hl 0 rfl) ?_
      obtain ⟨t3, et3, eh1⟩ := bS eh1
      refine r_getR C hS fl_Moves_18 et3 d_Moves_markRound_13 ?_
      refine lv_iload_n hx hb d_Moves_markRound_16 rfl (lv_at hl 1 rfl) ?_
      refine lv_iload_n hx hb d_Moves_markRound_17 rfl (lv_at hl 2 rfl) ?_
      obtain ⟨h4, eh4, eh1⟩ := bS eh1
      refine r_zast C hS eh4 d_Moves_markRound_18 (fun H locs hS => ?_)
      obtain rfl := Option.some.inj eh1
      exact kJ19_1 _ _ _ hS (lv_sub hl [] rfl)
theorem c_Moves_markRound (l : Launch) (base : Nat) (D : va_G) (cI cZ : ClassId) (h : Hp) (l0 : Nat) (l1 : Int32) (l2 : Int32) {r : Hp} (hM : f_Moves_markRound h l0 l1 l2 = some r) : Ct l base D cI cZ y_Moves_markRound b_Moves_markRound 3 none 0 0 0 0 h [.ref (base + l0), .int l1, .int l2] r none :=
  ct_of (by decide) (Nat.le_of_ble_eq_true rfl) (fun p e s m below meth c ls C hS hl => t_Moves_markRound C hM _ _ _ hS hl)
theorem d_Loops_markThose_0 : decode b_Loops_markThose 0 = .ok (.iconst 0, 1) := by decide +kernel
theorem d_Loops_markThose_1 : decode b_Loops_markThose 1 = .ok (.istore 4, 2) := by decide +kernel
theorem d_Loops_markThose_3 : decode b_Loops_markThose 3 = .ok (.iload 4, 2) := by decide +kernel
theorem d_Loops_markThose_5 : decode b_Loops_markThose 5 = .ok (.aload_n 1, 1) := by decide +kernel
theorem d_Loops_markThose_6 : decode b_Loops_markThose 6 = .ok (.invokevirtual 23, 3) := by decide +kernel
theorem d_Loops_markThose_9 : decode b_Loops_markThose 9 = .ok (.if_icmp .ge 37, 3) := by decide +kernel
theorem d_Loops_markThose_12 : decode b_Loops_markThose 12 = .ok (.aload_n 0, 1) := by decide +kernel
theorem d_Loops_markThose_13 : decode b_Loops_markThose 13 = .ok (.aload_n 1, 1) := by decide +kernel
theorem d_Loops_markThose_14 : decode b_Loops_markThose 14 = .ok (.iload 4, 2) := by decide +kernel
theorem d_Loops_markThose_16 : decode b_Loops_markThose 16 = .ok (.invokevirtual 29, 3) := by decide +kernel
theorem d_Loops_markThose_19 : decode b_Loops_markThose 19 = .ok (.aload_n 2, 1) := by decide +kernel
theorem d_Loops_markThose_20 : decode b_Loops_markThose 20 = .ok (.aload_n 3, 1) := by decide +kernel
theorem d_Loops_markThose_21 : decode b_Loops_markThose 21 = .ok (.invokevirtual 33, 3) := by decide +kernel
theorem d_Loops_markThose_24 : decode b_Loops_markThose 24 = .ok (.aload_n 1, 1) := by decide +kernel
theorem d_Loops_markThose_25 : decode b_Loops_markThose 25 = .ok (.iload 4, 2) := by decide +kernel
theorem d_Loops_markThose_27 : decode b_Loops_markThose 27 = .ok (.aload_n 0, 1) := by decide +kernel
theorem d_Loops_markThose_28 : decode b_Loops_markThose 28 = .ok (.aload_n 1, 1) := by decide +kernel
theorem d_Loops_markThose_29 : decode b_Loops_markThose 29 = .ok (.iload 4, 2) := by decide +kernel
theorem d_Loops_markThose_31 : decode b_Loops_markThose 31 = .ok (.invokevirtual 37, 3) := by decide +kernel
theorem d_Loops_markThose_34 : decode b_Loops_markThose 34 = .ok (.invokevirtual 40, 3) := by decide +kernel
theorem d_Loops_markThose_37 : decode b_Loops_markThose 37 = .ok (.invokevirtual 44, 3) := by decide +kernel
theorem d_Loops_markThose_40 : decode b_Loops_markThose 40 = .ok (.iinc 4 1, 3) := by decide +kernel
theorem d_Loops_markThose_43 : decode b_Loops_markThose 43 = .ok (.goto (-40), 3) := by decide +kernel
theorem d_Loops_markThose_46 : decode b_Loops_markThose 46 = .ok (.return_, 1) := by decide +kernel
def f_Loops_markThose_3 (l0 : Nat) (l1 : Nat) (l2 : Nat) (l3 : Nat) : Nat → Int32 → Hp → Option Hp
  | 0, _, _ => none
  | n + 1, l4, h =>
    (f_Moves_size h l1).bind fun t1 =>
    if t1 ≤ l4 then (
      some h
    ) else (
      (f_Moves_targetAt h l1 l4).bind fun t2 =>
      (f_Loops_reachFrom h l0 t2 l2 l3).bind fun h3 =>
      (f_Moves_startAt h3 l1 l4).bind fun t4 =>
      (f_Loops_isReached h3 l0 t4).bind fun t5 =>
      (f_Moves_markRound h3 l1 l4 t5).bind fun h6 =>
      f_Loops_markThose_3 l0 l1 l2 l3 n (l4 + (1 : Int32)) h6
    )
set_option maxHeartbeats 4000000 in
set_option maxRecDepth 100000 in
theorem t_Loops_markThose_3 {l0 : Nat} {l1 : Nat} {l2 : Nat} {l3 : Nat} {r : Hp} (C : Cx base D cI cZ b_Loops_markThose 5 "MovedFolders$Loops" "markThose" none p s m args meth c)  : ∀ (n : Nat) (l4 : Int32) (h : Hp), f_Loops_markThose_3 l0 l1 l2 l3 n l4 h = some r → ∀ (H : Heap) (locs : List Loc) (ls : Array Slot), RS base D cI cZ s H locs h → lv_has ls 5 [(0, .ref (base + l0)), (1, .ref (base + l1)), (2, .ref (base + l2)), (3, .ref (base + l3)), (4, .int l4)] → Wg l base D cI cZ 3 67 0 0 r none p e s m args below meth c H locs 0 0 (F0 m 3 ls []) := by
  have hx := C.1
  have hb := C.2.1
  intro n
  induction n with
  | zero =>
    intro l4 h hM
    rw [f_Loops_markThose_3] at hM
    cases hM
  | succ n ih =>
    intro l4 h hM H locs ls hS hl
    rw [f_Loops_markThose_3] at hM
    refine lv_iload hx hb d_Loops_markThose_3 (lv_at hl 4 rfl) ?_
    refine lv_aload_n hx hb d_Loops_markThose_5 rfl (lv_at hl 1 rfl) ?_
    obtain ⟨t1, et1, hM⟩ := bS hM
    refine r_callVi (x := t1) C hS cv_Loops_23 (c_Moves_size l base D cI cZ h l1 et1) (o_Moves_size et1) (rest := [.int l4]) rfl hl.1 rfl (Nat.le_of_ble_eq_true rfl) ⟨(Nat.le_of_ble_eq_true rfl), (Nat.le_of_ble_eq_true rfl)⟩ ⟨(Nat.le_of_ble_eq_true rfl), (Nat.le_of_ble_eq_true rfl)⟩ d_Loops_markThose_6 (fun H locs hS => ?_)
    refine lv_icmp_ge (tgt := 46) hx hb d_Loops_markThose_9 (by decide) (fun c9_1 => ?_) (fun c9_1 => ?_)
    · rw [if_pos c9_1] at hM
      obtain rfl := Option.some.inj hM
      exact r_vret C hS d_Loops_markThose_46
    · rw [if_neg c9_1] at hM
      refine lv_aload_n hx hb d_Loops_markThose_12 rfl (lv_at hl 0 rfl) ?_
      refine lv_aload_n hx hb d_Loops_markThose_13 rfl (lv_at hl 1 rfl) ?_
      refine lv_iload hx hb d_Loops_markThose_14 (lv_at hl 4 rfl) ?_
      obtain ⟨t2, et2, hM⟩ := bS hM
      refine r_callVi (x := t2) C hS cv_Loops_29 (c_Moves_targetAt l base D cI cZ h l1 l4 et2) (o_Moves_targetAt et2) (rest := [.ref (base + l0)]) rfl hl.1 rfl (Nat.le_of_ble_eq_true rfl) ⟨(Nat.le_of_ble_eq_true rfl), (Nat.le_of_ble_eq_true rfl)⟩ ⟨(Nat.le_of_ble_eq_true rfl), (Nat.le_of_ble_eq_true rfl)⟩ d_Loops_markThose_16 (fun H locs hS => ?_)
      refine lv_aload_n hx hb d_Loops_markThose_19 rfl (lv_at hl 2 rfl) ?_
      refine lv_aload_n hx hb d_Loops_markThose_20 rfl (lv_at hl 3 rfl) ?_
      obtain ⟨h3, eh3, hM⟩ := bS hM
      refine r_callVv C hS cv_Loops_33 (c_Loops_reachFrom l base D cI cZ h l0 t2 l2 l3 eh3) (o_Loops_reachFrom eh3) (rest := []) rfl hl.1 rfl (Nat.le_of_ble_eq_true rfl) ⟨(Nat.le_of_ble_eq_true rfl), (Nat.le_of_ble_eq_true rfl)⟩ ⟨(Nat.le_of_ble_eq_true rfl), (Nat.le_of_ble_eq_true rfl)⟩ d_Loops_markThose_21 (fun H locs hS => ?_)
      refine lv_aload_n hx hb d_Loops_markThose_24 rfl (lv_at hl 1 rfl) ?_
      refine lv_iload hx hb d_Loops_markThose_25 (lv_at hl 4 rfl) ?_
      refine lv_aload_n hx hb d_Loops_markThose_27 rfl (lv_at hl 0 rfl) ?_
      refine lv_aload_n hx hb d_Loops_markThose_28 rfl (lv_at hl 1 rfl) ?_
      refine lv_iload hx hb d_Loops_markThose_29 (lv_at hl 4 rfl) ?_
      obtain ⟨t4, et4, hM⟩ := bS hM
      refine r_callVi (x := t4) C hS cv_Loops_37 (c_Moves_startAt l base D cI cZ h3 l1 l4 et4) (o_Moves_startAt et4) (rest := [.ref (base + l0), .int l4, .ref (base + l1)]) rfl hl.1 rfl (Nat.le_of_ble_eq_true rfl) ⟨(Nat.le_of_ble_eq_true rfl), (Nat.le_of_ble_eq_true rfl)⟩ ⟨(Nat.le_of_ble_eq_true rfl), (Nat.le_of_ble_eq_true rfl)⟩ d_Loops_markThose_31 (fun H locs hS => ?_)
      obtain ⟨t5, et5, hM⟩ := bS hM
      refine r_callVi (x := t5) C hS cv_Loops_40 (c_Loops_isReached l base D cI cZ h3 l0 t4 et5) (o_Loops_isReached et5) (rest := [.int l4, .ref (base + l1)]) rfl hl.1 rfl (Nat.le_of_ble_eq_true rfl) ⟨(Nat.le_of_ble_eq_true rfl), (Nat.le_of_ble_eq_true rfl)⟩ ⟨(Nat.le_of_ble_eq_true rfl), (Nat.le_of_ble_eq_true rfl)⟩ d_Loops_markThose_34 (fun H locs hS => ?_)
      obtain ⟨h6, eh6, hM⟩ := bS hM
      refine r_callVv C hS cv_Loops_44 (c_Moves_markRound l base D cI cZ h3 l1 l4 t5 eh6) (o_Moves_markRound eh6) (rest := []) rfl hl.1 rfl (Nat.le_of_ble_eq_true rfl) ⟨(Nat.le_of_ble_eq_true rfl), (Nat.le_of_ble_eq_true rfl)⟩ ⟨(Nat.le_of_ble_eq_true rfl), (Nat.le_of_ble_eq_true rfl)⟩ d_Loops_markThose_37 (fun H locs hS => ?_)
      refine lv_iinc (v := (l4 + (1 : Int32))) (lv' := [(4, .int (l4 + (1 : Int32))), (0, .ref (base + l0)), (1, .ref (base + l1)), (2, .ref (base + l2)), (3, .ref (base + l3))]) hx hb d_Loops_markThose_40 hl (k := 4) rfl (by rw [oi_1]) (by decide) rfl (fun ls hl => ?_)
      refine lv_goto (tgt := 3) hx hb d_Loops_markThose_43 (by decide) ?_
      exact ih (l4 + (1 : Int32)) h6 hM _ _ _ hS (lv_sub hl [1, 2, 3, 4, 0] rfl)
def f_Loops_markThose (h : Hp) (l0 : Nat) (l1 : Nat) (l2 : Nat) (l3 : Nat) : Option Hp :=
  ck h 1 l0 (
    f_Loops_markThose_3 l0 l1 l2 l3 FU (0 : Int32) h
  )
theorem o_Loops_markThose {h : Hp} {l0 : Nat} {l1 : Nat} {l2 : Nat} {l3 : Nat} {r : Hp} (hM : f_Loops_markThose h l0 l1 l2 l3 = some r) : isO h 1 l0 = true := by
  unfold f_Loops_markThose at hM
  exact (ck_some hM).1
set_option maxHeartbeats 4000000 in
set_option maxRecDepth 100000 in
theorem t_Loops_markThose {h : Hp} {l0 : Nat} {l1 : Nat} {l2 : Nat} {l3 : Nat} {r : Hp} (C : Cx base D cI cZ b_Loops_markThose 5 "MovedFolders$Loops" "markThose" none p s m args meth c) (hM : f_Loops_markThose h l0 l1 l2 l3 = some r) (H : Heap) (locs : List Loc) (ls : Array Slot) (hS : RS base D cI cZ s H locs h) (hl : lv_has ls 5 [(0, .ref (base + l0)), (1, .ref (base + l1)), (2, .ref (base + l2)), (3, .ref (base + l3))]) : Wg l base D cI cZ 3 67 0 0 r none p e s m args below meth c H locs 0 0 (F0 m 0 ls []) := by
  have hx := C.1
  have hb := C.2.1
  unfold f_Loops_markThose at hM
  replace hM := (ck_some hM).2
  refine lv_iconst (v := (0 : Int32)) hx hb d_Loops_markThose_0 (by decide) ?_
  refine lv_istore (lv' := [(4, .int (0 : Int32)), (0, .ref (base + l0)), (1, .ref (base + l1)), (2, .ref (base + l2)), (3, .ref (base + l3))]) hx hb d_Loops_markThose_1 hl (by decide) rfl (fun ls hl => ?_)
  exact t_Loops_markThose_3  C  FU (0 : Int32) h hM _ _ _ hS (lv_sub hl [1, 2, 3, 4, 0] rfl)
theorem c_Loops_markThose (l : Launch) (base : Nat) (D : va_G) (cI cZ : ClassId) (h : Hp) (l0 : Nat) (l1 : Nat) (l2 : Nat) (l3 : Nat) {r : Hp} (hM : f_Loops_markThose h l0 l1 l2 l3 = some r) : Ct l base D cI cZ y_Loops_markThose b_Loops_markThose 5 none 3 67 0 0 h [.ref (base + l0), .ref (base + l1), .ref (base + l2), .ref (base + l3)] r none :=
  ct_of (by decide) (Nat.le_of_ble_eq_true rfl) (fun p e s m below meth c ls C hS hl => t_Loops_markThose C hM _ _ _ hS hl)
theorem d_Loops_mark_0 : decode b_Loops_mark 0 = .ok (.aload_n 0, 1) := by decide +kernel
theorem d_Loops_mark_1 : decode b_Loops_mark 1 = .ok (.aload_n 1, 1) := by decide +kernel
theorem d_Loops_mark_2 : decode b_Loops_mark 2 = .ok (.aload_n 1, 1) := by decide +kernel
theorem d_Loops_mark_3 : decode b_Loops_mark 3 = .ok (.aload_n 2, 1) := by decide +kernel
theorem d_Loops_mark_4 : decode b_Loops_mark 4 = .ok (.invokevirtual 19, 3) := by decide +kernel
theorem d_Loops_mark_7 : decode b_Loops_mark 7 = .ok (.aload_n 0, 1) := by decide +kernel
theorem d_Loops_mark_8 : decode b_Loops_mark 8 = .ok (.aload_n 2, 1) := by decide +kernel
theorem d_Loops_mark_9 : decode b_Loops_mark 9 = .ok (.aload_n 1, 1) := by decide +kernel
theorem d_Loops_mark_10 : decode b_Loops_mark 10 = .ok (.aload_n 2, 1) := by decide +kernel
theorem d_Loops_mark_11 : decode b_Loops_mark 11 = .ok (.invokevirtual 19, 3) := by decide +kernel
theorem d_Loops_mark_14 : decode b_Loops_mark 14 = .ok (.return_, 1) := by decide +kernel
def f_Loops_mark (h : Hp) (l0 : Nat) (l1 : Nat) (l2 : Nat) : Option Hp :=
  ck h 1 l0 (
    (f_Loops_markThose h l0 l1 l1 l2).bind fun h1 =>
    (f_Loops_markThose h1 l0 l2 l1 l2).bind fun h2 =>
    some h2
  )
theorem o_Loops_mark {h : Hp} {l0 : Nat} {l1 : Nat} {l2 : Nat} {r : Hp} (hM : f_Loops_mark h l0 l1 l2 = some r) : isO h 1 l0 = true := by
  unfold f_Loops_mark at hM
  exact (ck_some hM).1
set_option maxHeartbeats 4000000 in
set_option maxRecDepth 100000 in
theorem t_Loops_mark {h : Hp} {l0 : Nat} {l1 : Nat} {l2 : Nat} {r : Hp} (C : Cx base D cI cZ b_Loops_mark 3 "MovedFolders$Loops" "mark" none p s m args meth c) (hM : f_Loops_mark h l0 l1 l2 = some r) (H : Heap) (locs : List Loc) (ls : Array Slot) (hS : RS base D cI cZ s H locs h) (hl : lv_has ls 3 [(0, .ref (base + l0)), (1, .ref (base + l1)), (2, .ref (base + l2))]) : Wg l base D cI cZ 4 91 0 0 r none p e s m args below meth c H locs 0 0 (F0 m 0 ls []) := by
  have hx := C.1
  have hb := C.2.1
  unfold f_Loops_mark at hM
  replace hM := (ck_some hM).2
  refine lv_aload_n hx hb d_Loops_mark_0 rfl (lv_at hl 0 rfl) ?_
  refine lv_aload_n hx hb d_Loops_mark_1 rfl (lv_at hl 1 rfl) ?_
  refine lv_aload_n hx hb d_Loops_mark_2 rfl (lv_at hl 1 rfl) ?_
  refine lv_aload_n hx hb d_Loops_mark_3 rfl (lv_at hl 2 rfl) ?_
  obtain ⟨h1, eh1, hM⟩ := bS hM
  refine r_callVv C hS cv_Loops_19 (c_Loops_markThose l base D cI cZ h l0 l1 l1 l2 eh1) (o_Loops_markThose eh1) (rest := []) rfl hl.1 rfl (Nat.le_of_ble_eq_true rfl) ⟨(Nat.le_of_ble_eq_true rfl), (Nat.le_of_ble_eq_true rfl)⟩ ⟨(Nat.le_of_ble_eq_true rfl), (Nat.le_of_ble_eq_true rfl)⟩ d_Loops_mark_4 (fun H locs hS => ?_)
  refine lv_aload_n hx hb d_Loops_mark_7 rfl (lv_at hl 0 rfl) ?_
  refine lv_aload_n hx hb d_Loops_mark_8 rfl (lv_at hl 2 rfl) ?_
  refine lv_aload_n hx hb d_Loops_mark_9 rfl (lv_at hl 1 rfl) ?_
  refine lv_aload_n hx hb d_Loops_mark_10 rfl (lv_at hl 2 rfl) ?_
  obtain ⟨h2, eh2, hM⟩ := bS hM
  refine r_callVv C hS cv_Loops_19 (c_Loops_markThose l base D cI cZ h1 l0 l2 l1 l2 eh2) (o_Loops_markThose eh2) (rest := []) rfl hl.1 rfl (Nat.le_of_ble_eq_true rfl) ⟨(Nat.le_of_ble_eq_true rfl), (Nat.le_of_ble_eq_true rfl)⟩ ⟨(Nat.le_of_ble_eq_true rfl), (Nat.le_of_ble_eq_true rfl)⟩ d_Loops_mark_11 (fun H locs hS => ?_)
  obtain rfl := Option.some.inj hM
  exact r_vret C hS d_Loops_mark_14
theorem c_Loops_mark (l : Launch) (base : Nat) (D : va_G) (cI cZ : ClassId) (h : Hp) (l0 : Nat) (l1 : Nat) (l2 : Nat) {r : Hp} (hM : f_Loops_mark h l0 l1 l2 = some r) : Ct l base D cI cZ y_Loops_mark b_Loops_mark 3 none 4 91 0 0 h [.ref (base + l0), .ref (base + l1), .ref (base + l2)] r none :=
  ct_of (by decide) (Nat.le_of_ble_eq_true rfl) (fun p e s m below meth c ls C hS hl => t_Loops_mark C hM _ _ _ hS hl)
theorem d_Merge_init_0 : decode b_Merge_init 0 = .ok (.aload_n 0, 1) := by decide +kernel
theorem d_Merge_init_1 : decode b_Merge_init 1 = .ok (.invokespecial 3, 3) := by decide +kernel
theorem d_Merge_init_4 : decode b_Merge_init 4 = .ok (.aload_n 0, 1) := by decide +kernel
theorem d_Merge_init_5 : decode b_Merge_init 5 = .ok (.bipush 36, 2) := by decide +kernel
theorem d_Merge_init_7 : decode b_Merge_init 7 = .ok (.newarray .int, 2) := by decide +kernel
theorem d_Merge_init_9 : decode b_Merge_init 9 = .ok (.putfield 9, 3) := by decide +kernel
theorem d_Merge_init_12 : decode b_Merge_init 12 = .ok (.aload_n 0, 1) := by decide +kernel
theorem d_Merge_init_13 : decode b_Merge_init 13 = .ok (.bipush 36, 2) := by decide +kernel
theorem d_Merge_init_15 : decode b_Merge_init 15 = .ok (.newarray .int, 2) := by decide +kernel
theorem d_Merge_init_17 : decode b_Merge_init 17 = .ok (.putfield 15, 3) := by decide +kernel
theorem d_Merge_init_20 : decode b_Merge_init 20 = .ok (.aload_n 0, 1) := by decide +kernel
theorem d_Merge_init_21 : decode b_Merge_init 21 = .ok (.bipush 36, 2) := by decide +kernel
theorem d_Merge_init_23 : decode b_Merge_init 23 = .ok (.newarray .int, 2) := by decide +kernel
theorem d_Merge_init_25 : decode b_Merge_init 25 = .ok (.putfield 18, 3) := by decide +kernel
theorem d_Merge_init_28 : decode b_Merge_init 28 = .ok (.aload_n 0, 1) := by decide +kernel
theorem d_Merge_init_29 : decode b_Merge_init 29 = .ok (.bipush 36, 2) := by decide +kernel
theorem d_Merge_init_31 : decode b_Merge_init 31 = .ok (.newarray .int, 2) := by decide +kernel
theorem d_Merge_init_33 : decode b_Merge_init 33 = .ok (.putfield 21, 3) := by decide +kernel
theorem d_Merge_init_36 : decode b_Merge_init 36 = .ok (.aload_n 0, 1) := by decide +kernel
theorem d_Merge_init_37 : decode b_Merge_init 37 = .ok (.iconst 0, 1) := by decide +kernel
theorem d_Merge_init_38 : decode b_Merge_init 38 = .ok (.putfield 24, 3) := by decide +kernel
theorem d_Merge_init_41 : decode b_Merge_init 41 = .ok (.aload_n 0, 1) := by decide +kernel
theorem d_Merge_init_42 : decode b_Merge_init 42 = .ok (.bipush 36, 2) := by decide +kernel
theorem d_Merge_init_44 : decode b_Merge_init 44 = .ok (.newarray .int, 2) := by decide +kernel
theorem d_Merge_init_46 : decode b_Merge_init 46 = .ok (.putfield 28, 3) := by decide +kernel
theorem d_Merge_init_49 : decode b_Merge_init 49 = .ok (.aload_n 0, 1) := by decide +kernel
theorem d_Merge_init_50 : decode b_Merge_init 50 = .ok (.bipush 36, 2) := by decide +kernel
theorem d_Merge_init_52 : decode b_Merge_init 52 = .ok (.newarray .int, 2) := by decide +kernel
theorem d_Merge_init_54 : decode b_Merge_init 54 = .ok (.putfield 31, 3) := by decide +kernel
theorem d_Merge_init_57 : decode b_Merge_init 57 = .ok (.aload_n 0, 1) := by decide +kernel
theorem d_Merge_init_58 : decode b_Merge_init 58 = .ok (.iconst 0, 1) := by decide +kernel
theorem d_Merge_init_59 : decode b_Merge_init 59 = .ok (.putfield 34, 3) := by decide +kernel
theorem d_Merge_init_62 : decode b_Merge_init 62 = .ok (.aload_n 0, 1) := by decide +kernel
theorem d_Merge_init_63 : decode b_Merge_init 63 = .ok (.bipush 12, 2) := by decide +kernel
theorem d_Merge_init_65 : decode b_Merge_init 65 = .ok (.newarray .int, 2) := by decide +kernel
theorem d_Merge_init_67 : decode b_Merge_init 67 = .ok (.putfield 37, 3) := by decide +kernel
theorem d_Merge_init_70 : decode b_Merge_init 70 = .ok (.return_, 1) := by decide +kernel
def f_Merge_init (h : Hp) (l0 : Nat) : Option Hp :=
  ck h 2 l0 (
    (sR (h ++ [.inl (false, 36, fun _ => 0)]) 2 l0 0 h.length).bind fun h1 =>
    (sR (h1 ++ [.inl (false, 36, fun _ => 0)]) 2 l0 1 h1.length).bind fun h2 =>
    (sR (h2 ++ [.inl (false, 36, fun _ => 0)]) 2 l0 2 h2.length).bind fun h3 =>
    (sR (h3 ++ [.inl (false, 36, fun _ => 0)]) 2 l0 3 h3.length).bind fun h4 =>
    (sI h4 2 l0 4 (0 : Int32)).bind fun h5 =>
    (sR (h5 ++ [.inl (false, 36, fun _ => 0)]) 2 l0 5 h5.length).bind fun h6 =>
    (sR (h6 ++ [.inl (false, 36, fun _ => 0)]) 2 l0 6 h6.length).bind fun h7 =>
    (sI h7 2 l0 7 (0 : Int32)).bind fun h8 =>
    (sR (h8 ++ [.inl (false, 12, fun _ => 0)]) 2 l0 8 h8.length).bind fun h9 =>
    some h9
  )
theorem o_Merge_init {h : Hp} {l0 : Nat} {r : Hp} (hM : f_Merge_init h l0 = some r) : isO h 2 l0 = true := by
  unfold f_Merge_init at hM
  exact (ck_some hM).1
set_option maxHeartbeats 4000000 in
set_option maxRecDepth 100000 in
theorem t_Merge_init {h : Hp} {l0 : Nat} {r : Hp} (C : Cx base D cI cZ b_Merge_init 1 "MovedFolders$Merge" "<init>" none p s m args meth c) (hM : f_Merge_init h l0 = some r) (H : Heap) (locs : List Loc) (ls : Array Slot) (hS : RS base D cI cZ s H locs h) (hl : lv_has ls 1 [(0, .ref (base + l0))]) : Wg l base D cI cZ 1 12 7 228 r none p e s m args below meth c H locs 0 0 (F0 m 0 ls []) := by
  have hx := C.1
  have hb := C.2.1
  unfold f_Merge_init at hM
  replace hM := (ck_some hM).2
  refine lv_aload_n hx hb d_Merge_init_0 rfl (lv_at hl 0 rfl) ?_
  refine r_obj C oi_Merge_3 hl.1 rfl ⟨(Nat.le_of_ble_eq_true rfl), (Nat.le_of_ble_eq_true rfl)⟩ d_Merge_init_1 ?_
  refine lv_aload_n hx hb d_Merge_init_4 rfl (lv_at hl 0 rfl) ?_
  refine lv_bipush (v := (36 : Int32)) hx hb d_Merge_init_5 (by decide) ?_
  refine r_newI (N := 36) C hS ac_int (by decide) (by decide) (Nat.le_of_ble_eq_true rfl) (Nat.le_of_ble_eq_true rfl) (Nat.le_of_ble_eq_true rfl) d_Merge_init_7 (fun H hS => ?_)
  obtain ⟨h1, eh1, hM⟩ := bS hM
  refine r_putF C hS fp_Merge_9 (fun q hq => by cases hq; rfl) eh1 rfl rfl d_Merge_init_9 (fun H locs hS => ?_)
  refine lv_aload_n hx hb d_Merge_init_12 rfl (lv_at hl 0 rfl) ?_
  refine lv_bipush (v := (36 : Int32)) hx hb d_Merge_init_13 (by decide) ?_
  refine r_newI (N := 36) C hS ac_int (by decide) (by decide) (Nat.le_of_ble_eq_true rfl) (Nat.le_of_ble_eq_true rfl) (Nat.le_of_ble_eq_true rfl) d_Merge_init_15 (fun H hS => ?_)
  obtain ⟨h2, eh2, hM⟩ := bS hM
  refine r_putF C hS fp_Merge_15 (fun q hq => by cases hq; rfl) eh2 rfl rfl d_Merge_init_17 (fun H locs hS => ?_)
  refine lv_aload_n hx hb d_Merge_init_20 rfl (lv_at hl 0 rfl) ?_
  refine lv_bipush (v := (36 : Int32)) hx hb d_Merge_init_21 (by decide) ?_
  refine r_newI (N := 36) C hS ac_int (by decide) (by decide) (Nat.le_of_ble_eq_true rfl) (Nat.le_of_ble_eq_true rfl) (Nat.le_of_ble_eq_true rfl) d_Merge_init_23 (fun H hS => ?_)
  obtain ⟨h3, eh3, hM⟩ := bS hM
  refine r_putF C hS fp_Merge_18 (fun q hq => by cases hq; rfl) eh3 rfl rfl d_Merge_init_25 (fun H locs hS => ?_)
  refine lv_aload_n hx hb d_Merge_init_28 rfl (lv_at hl 0 rfl) ?_
  refine lv_bipush (v := (36 : Int32)) hx hb d_Merge_init_29 (by decide) ?_
  refine r_newI (N := 36) C hS ac_int (by decide) (by decide) (Nat.le_of_ble_eq_true rfl) (Nat.le_of_ble_eq_true rfl) (Nat.le_of_ble_eq_true rfl) d_Merge_init_31 (fun H hS => ?_)
  obtain ⟨h4, eh4, hM⟩ := bS hM
  refine r_putF C hS fp_Merge_21 (fun q hq => by cases hq; rfl) eh4 rfl rfl d_Merge_init_33 (fun H locs hS => ?_)
  refine lv_aload_n hx hb d_Merge_init_36 rfl (lv_at hl 0 rfl) ?_
  refine lv_iconst (v := (0 : Int32)) hx hb d_Merge_init_37 (by decide) ?_
  obtain ⟨h5, eh5, hM⟩ := bS hM
  refine r_putI C hS fp_Merge_24 eh5 d_Merge_init_38 (fun H locs hS => ?_)
  refine lv_aload_n hx hb d_Merge_init_41 rfl (lv_at hl 0 rfl) ?_
  refine lv_bipush (v := (36 : Int32)) hx hb d_Merge_init_42 (by decide) ?_
  refine r_newI (N := 36) C hS ac_int (by decide) (by decide) (Nat.le_of_ble_eq_true rfl) (Nat.le_of_ble_eq_true rfl) (Nat.le_of_ble_eq_true rfl) d_Merge_init_44 (fun H hS => ?_)
  obtain ⟨h6, eh6, hM⟩ := bS hM
  refine r_putF C hS fp_Merge_28 (fun q hq => by cases hq; rfl) eh6 rfl rfl d_Merge_init_46 (fun H locs hS => ?_)
  refine lv_aload_n hx hb d_Merge_init_49 rfl (lv_at hl 0 rfl) ?_
  refine lv_bipush (v := (36 : Int32)) hx hb d_Merge_init_50 (by decide) ?_
  refine r_newI (N := 36) C hS ac_int (by decide) (by decide) (Nat.le_of_ble_eq_true rfl) (Nat.le_of_ble_eq_true rfl) (Nat.le_of_ble_eq_true rfl) d_Merge_init_52 (fun H hS => ?_)
  obtain ⟨h7, eh7, hM⟩ := bS hM
  refine r_putF C hS fp_Merge_31 (fun q hq => by cases hq; rfl) eh7 rfl rfl d_Merge_init_54 (fun H locs hS => ?_)
  refine lv_aload_n hx hb d_Merge_init_57 rfl (lv_at hl 0 rfl) ?_
  refine lv_iconst (v := (0 : Int32)) hx hb d_Merge_init_58 (by decide) ?_
  obtain ⟨h8, eh8, hM⟩ := bS hM
  refine r_putI C hS fp_Merge_34 eh8 d_Merge_init_59 (fun H locs hS => ?_)
  refine lv_aload_n hx hb d_Merge_init_62 rfl (lv_at hl 0 rfl) ?_
  refine lv_bipush (v := (12 : Int32)) hx hb d_Merge_init_63 (by decide) ?_
  refine r_newI (N := 12) C hS ac_int (by decide) (by decide) (Nat.le_of_ble_eq_true rfl) (Nat.le_of_ble_eq_true rfl) (Nat.le_of_ble_eq_true rfl) d_Merge_init_65 (fun H hS => ?_)
  obtain ⟨h9, eh9, hM⟩ := bS hM
  refine r_putF C hS fp_Merge_37 (fun q hq => by cases hq; rfl) eh9 rfl rfl d_Merge_init_67 (fun H locs hS => ?_)
  obtain rfl := Option.some.inj hM
  exact r_vret C hS d_Merge_init_70
theorem c_Merge_init (l : Launch) (base : Nat) (D : va_G) (cI cZ : ClassId) (h : Hp) (l0 : Nat) {r : Hp} (hM : f_Merge_init h l0 = some r) : Ct l base D cI cZ y_Merge_init b_Merge_init 1 none 1 12 7 228 h [.ref (base + l0)] r none :=
  ct_of (by decide) (Nat.le_of_ble_eq_true rfl) (fun p e s m below meth c ls C hS hl => t_Merge_init C hM _ _ _ hS hl)
theorem d_Merge_size_0 : decode b_Merge_size 0 = .ok (.aload_n 0, 1) := by decide +kernel
theorem d_Merge_size_1 : decode b_Merge_size 1 = .ok (.getfield 24, 3) := by decide +kernel
theorem d_Merge_size_4 : decode b_Merge_size 4 = .ok (.ireturn, 1) := by decide +kernel
def f_Merge_size (h : Hp) (l0 : Nat) : Option Int32 :=
  ck h 2 l0 (
    (gI h 2 l0 4).bind fun t1 =>
    some t1
  )
theorem o_Merge_size {h : Hp} {l0 : Nat} {r : Int32} (hM : f_Merge_size h l0 = some r) : isO h 2 l0 = true := by
  unfold f_Merge_size at hM
  exact (ck_some hM).1
set_option maxHeartbeats 4000000 in
set_option maxRecDepth 100000 in
theorem t_Merge_size {h : Hp} {l0 : Nat} {r : Int32} (C : Cx base D cI cZ b_Merge_size 1 "MovedFolders$Merge" "size" (some .int) p s m args meth c) (hM : f_Merge_size h l0 = some r) (H : Heap) (locs : List Loc) (ls : Array Slot) (hS : RS base D cI cZ s H locs h) (hl : lv_has ls 1 [(0, .ref (base + l0))]) : Wg l base D cI cZ 0 0 0 0 h (some (.int r)) p e s m args below meth c H locs 0 0 (F0 m 0 ls []) := by
  have hx := C.1
  have hb := C.2.1
  unfold f_Merge_size at hM
  replace hM := (ck_some hM).2
  refine lv_aload_n hx hb d_Merge_size_0 rfl (lv_at hl 0 rfl) ?_
  obtain ⟨t1, et1, hM⟩ := bS hM
  refine r_getI C hS fl_Merge_24 et1 d_Merge_size_1 ?_
  obtain rfl := Option.some.inj hM
  exact r_iret C hS d_Merge_size_4
theorem c_Merge_size (l : Launch) (base : Nat) (D : va_G) (cI cZ : ClassId) (h : Hp) (l0 : Nat) {r : Int32} (hM : f_Merge_size h l0 = some r) : Ct l base D cI cZ y_Merge_size b_Merge_size 1 (some .int) 0 0 0 0 h [.ref (base + l0)] h (some (.int r)) :=
  ct_of (by decide) (Nat.le_of_ble_eq_true rfl) (fun p e s m below meth c ls C hS hl => t_Merge_size C hM _ _ _ hS hl)
theorem d_Merge_clashSize_0 : decode b_Merge_clashSize 0 = .ok (.aload_n 0, 1) := by decide +kernel
theorem d_Merge_clashSize_1 : decode b_Merge_clashSize 1 = .ok (.getfield 34, 3) := by decide +kernel
theorem d_Merge_clashSize_4 : decode b_Merge_clashSize 4 = .ok (.ireturn, 1) := by decide +kernel
def f_Merge_clashSize (h : Hp) (l0 : Nat) : Option Int32 :=
  ck h 2 l0 (
    (gI h 2 l0 7).bind fun t1 =>
    some t1
  )
theorem o_Merge_clashSize {h : Hp} {l0 : Nat} {r : Int32} (hM : f_Merge_clashSize h l0 = some r) : isO h 2 l0 = true := by
  unfold f_Merge_clashSize at hM
  exact (ck_some hM).1
set_option maxHeartbeats 4000000 in
set_option maxRecDepth 100000 in
theorem t_Merge_clashSize {h : Hp} {l0 : Nat} {r : Int32} (C : Cx base D cI cZ b_Merge_clashSize 1 "MovedFolders$Merge" "clashSize" (some .int) p s m args meth c) (hM : f_Merge_clashSize h l0 = some r) (H : Heap) (locs : List Loc) (ls : Array Slot) (hS : RS base D cI cZ s H locs h) (hl : lv_has ls 1 [(0, .ref (base + l0))]) : Wg l base D cI cZ 0 0 0 0 h (some (.int r)) p e s m args below meth c H locs 0 0 (F0 m 0 ls []) := by
  have hx := C.1
  have hb := C.2.1
  unfold f_Merge_clashSize at hM
  replace hM := (ck_some hM).2
  refine lv_aload_n hx hb d_Merge_clashSize_0 rfl (lv_at hl 0 rfl) ?_
  obtain ⟨t1, et1, hM⟩ := bS hM
  refine r_getI C hS fl_Merge_34 et1 d_Merge_clashSize_1 ?_
  obtain rfl := Option.some.inj hM
  exact r_iret C hS d_Merge_clashSize_4
theorem c_Merge_clashSize (l : Launch) (base : Nat) (D : va_G) (cI cZ : ClassId) (h : Hp) (l0 : Nat) {r : Int32} (hM : f_Merge_clashSize h l0 = some r) : Ct l base D cI cZ y_Merge_clashSize b_Merge_clashSize 1 (some .int) 0 0 0 0 h [.ref (base + l0)] h (some (.int r)) :=
  ct_of (by decide) (Nat.le_of_ble_eq_true rfl) (fun p e s m below meth c ls C hS hl => t_Merge_clashSize C hM _ _ _ hS hl)
theorem d_Merge_tell_0 : decode b_Merge_tell 0 = .ok (.iload_n 1, 1) := by decide +kernel
theorem d_Merge_tell_1 : decode b_Merge_tell 1 = .ok (.ifCond .lt 11, 3) := by decide +kernel
theorem d_Merge_tell_4 : decode b_Merge_tell 4 = .ok (.iload_n 1, 1) := by decide +kernel
theorem d_Merge_tell_5 : decode b_Merge_tell 5 = .ok (.aload_n 0, 1) := by decide +kernel
theorem d_Merge_tell_6 : decode b_Merge_tell 6 = .ok (.getfield 24, 3) := by decide +kernel
theorem d_Merge_tell_9 : decode b_Merge_tell 9 = .ok (.if_icmp .lt 6, 3) := by decide +kernel
theorem d_Merge_tell_12 : decode b_Merge_tell 12 = .ok (.bipush (-6), 2) := by decide +kernel
theorem d_Merge_tell_14 : decode b_Merge_tell 14 = .ok (.ireturn, 1) := by decide +kernel
theorem d_Merge_tell_15 : decode b_Merge_tell 15 = .ok (.iload_n 2, 1) := by decide +kernel
theorem d_Merge_tell_16 : decode b_Merge_tell 16 = .ok (.tableswitch 49 0 2 #[28, 35, 42], 28) := by decide +kernel
theorem d_Merge_tell_44 : decode b_Merge_tell 44 = .ok (.aload_n 0, 1) := by decide +kernel
theorem d_Merge_tell_45 : decode b_Merge_tell 45 = .ok (.getfield 9, 3) := by decide +kernel
theorem d_Merge_tell_48 : decode b_Merge_tell 48 = .ok (.iload_n 1, 1) := by decide +kernel
theorem d_Merge_tell_49 : decode b_Merge_tell 49 = .ok (.iaload, 1) := by decide +kernel
theorem d_Merge_tell_50 : decode b_Merge_tell 50 = .ok (.ireturn, 1) := by decide +kernel
theorem d_Merge_tell_51 : decode b_Merge_tell 51 = .ok (.aload_n 0, 1) := by decide +kernel
theorem d_Merge_tell_52 : decode b_Merge_tell 52 = .ok (.getfield 15, 3) := by decide +kernel
theorem d_Merge_tell_55 : decode b_Merge_tell 55 = .ok (.iload_n 1, 1) := by decide +kernel
theorem d_Merge_tell_56 : decode b_Merge_tell 56 = .ok (.iaload, 1) := by decide +kernel
theorem d_Merge_tell_57 : decode b_Merge_tell 57 = .ok (.ireturn, 1) := by decide +kernel
theorem d_Merge_tell_58 : decode b_Merge_tell 58 = .ok (.aload_n 0, 1) := by decide +kernel
theorem d_Merge_tell_59 : decode b_Merge_tell 59 = .ok (.getfield 18, 3) := by decide +kernel
theorem d_Merge_tell_62 : decode b_Merge_tell 62 = .ok (.iload_n 1, 1) := by decide +kernel
theorem d_Merge_tell_63 : decode b_Merge_tell 63 = .ok (.iaload, 1) := by decide +kernel
theorem d_Merge_tell_64 : decode b_Merge_tell 64 = .ok (.ireturn, 1) := by decide +kernel
theorem d_Merge_tell_65 : decode b_Merge_tell 65 = .ok (.aload_n 0, 1) := by decide +kernel
theorem d_Merge_tell_66 : decode b_Merge_tell 66 = .ok (.getfield 21, 3) := by decide +kernel
theorem d_Merge_tell_69 : decode b_Merge_tell 69 = .ok (.iload_n 1, 1) := by decide +kernel
theorem d_Merge_tell_70 : decode b_Merge_tell 70 = .ok (.iaload, 1) := by decide +kernel
theorem d_Merge_tell_71 : decode b_Merge_tell 71 = .ok (.ireturn, 1) := by decide +kernel
def f_Merge_tell (h : Hp) (l0 : Nat) (l1 : Int32) (l2 : Int32) : Option Int32 :=
  ck h 2 l0 (
    if l1 < (0 : Int32) then (
      some (-6 : Int32)
    ) else (
      (gI h 2 l0 4).bind fun t1 =>
      if l1 < t1 then (
        if l2 = (0 : Int32) then (
          (gR h 2 l0 0).bind fun t2 =>
          (gA h false t2 l1).bind fun t3 =>
          some t3
        ) else (
          if l2 = (1 : Int32) then (
            (gR h 2 l0 1).bind fun t4 =>
            (gA h false t4 l1).bind fun t5 =>
            some t5
          ) else (
            if l2 = (2 : Int32) then (
              (gR h 2 l0 2).bind fun t6 =>
              (gA h false t6 l1).bind fun t7 =>
              some t7
            ) else (
              (gR h 2 l0 3).bind fun t8 =>
              (gA h false t8 l1).bind fun t9 =>
              some t9
        )))
      ) else (
        some (-6 : Int32)
      )
    )
  )
theorem o_Merge_tell {h : Hp} {l0 : Nat} {l1 : Int32} {l2 : Int32} {r : Int32} (hM : f_Merge_tell h l0 l1 l2 = some r) : isO h 2 l0 = true := by
  unfold f_Merge_tell at hM
  exact (ck_some hM).1
set_option maxHeartbeats 4000000 in
set_option maxRecDepth 100000 in
theorem t_Merge_tell {h : Hp} {l0 : Nat} {l1 : Int32} {l2 : Int32} {r : Int32} (C : Cx base D cI cZ b_Merge_tell 3 "MovedFolders$Merge" "tell" (some .int) p s m args meth c) (hM : f_Merge_tell h l0 l1 l2 = some r) (H : Heap) (locs : List Loc) (ls : Array Slot) (hS : RS base D cI cZ s H locs h) (hl : lv_has ls 3 [(0, .ref (base + l0)), (1, .int l1), (2, .int l2)]) : Wg l base D cI cZ 0 0 0 0 h (some (.int r)) p e s m args below meth c H locs 0 0 (F0 m 0 ls []) := by
  have hx := C.1
  have hb := C.2.1
  unfold f_Merge_tell at hM
  replace hM := (ck_some hM).2
  refine lv_iload_n hx hb d_Merge_tell_0 rfl (lv_at hl 1 rfl) ?_
  refine lv_if_lt (tgt := 12) hx hb d_Merge_tell_1 (by decide) (fun c1_1 => ?_) (fun c1_1 => ?_)
  · rw [if_pos c1_1] at hM
    refine lv_bipush (v := (-6 : Int32)) hx hb d_Merge_tell_12 (by decide) ?_
    obtain rfl := Option.some.inj hM
    exact r_iret C hS d_Merge_tell_14
  · rw [if_neg c1_1] at hM
    refine lv_iload_n hx hb d_Merge_tell_4 rfl (lv_at hl 1 rfl) ?_
    refine lv_aload_n hx hb d_Merge_tell_5 rfl (lv_at hl 0 rfl) ?_
    obtain ⟨t1, et1, hM⟩ := bS hM
    refine r_getI C hS fl_Merge_24 et1 d_Merge_tell_6 ?_
    refine lv_icmp_lt (tgt := 15) hx hb d_Merge_tell_9 (by decide) (fun c9_2 => ?_) (fun c9_2 => ?_)
    · rw [if_pos c9_2] at hM
      refine lv_iload_n hx hb d_Merge_tell_15 rfl (lv_at hl 2 rfl) ?_
      by_cases c16_3 : l2 = (0 : Int32)
      · rw [if_pos c16_3] at hM
        refine lv_tableIn (off := 28) (tgt := 44) hx hb d_Merge_tell_16 (by rw [c16_3]; decide) (by rw [c16_3]; decide) (by rw [c16_3]; rfl) (by decide) ?_
        refine lv_aload_n hx hb d_Merge_tell_44 rfl (lv_at hl 0 rfl) ?_
        obtain ⟨t2, et2, hM⟩ := bS hM
        refine r_getR C hS fl_Merge_9 et2 d_Merge_tell_45 ?_
        refine lv_iload_n hx hb d_Merge_tell_48 rfl (lv_at hl 1 rfl) ?_
        obtain ⟨t3, et3, hM⟩ := bS hM
        refine r_iald C hS et3 d_Merge_tell_49 ?_
        obtain rfl := Option.some.inj hM
        exact r_iret C hS d_Merge_tell_50
      rw [if_neg c16_3] at hM
      by_cases c16_4 : l2 = (1 : Int32)
      · rw [if_pos c16_4] at hM
        refine lv_tableIn (off := 35) (tgt := 51) hx hb d_Merge_tell_16 (by rw [c16_4]; decide) (by rw [c16_4]; decide) (by rw [c16_4]; rfl) (by decide) ?_
        refine lv_aload_n hx hb d_Merge_tell_51 rfl (lv_at hl 0 rfl) ?_
        obtain ⟨t4, et4, hM⟩ := bS hM
        refine r_getR C hS fl_Merge_15 et4 d_Merge_tell_52 ?_
        refine lv_iload_n hx hb d_Merge_tell_55 rfl (lv_at hl 1 rfl) ?_
        obtain ⟨t5, et5, hM⟩ := bS hM
        refine r_iald C hS et5 d_Merge_tell_56 ?_
        obtain rfl := Option.some.inj hM
        exact r_iret C hS d_Merge_tell_57
      rw [if_neg c16_4] at hM
      by_cases c16_5 : l2 = (2 : Int32)
      · rw [if_pos c16_5] at hM
        refine lv_tableIn (off := 42) (tgt := 58) hx hb d_Merge_tell_16 (by rw [c16_5]; decide) (by rw [c16_5]; decide) (by rw [c16_5]; rfl) (by decide) ?_
        refine lv_aload_n hx hb d_Merge_tell_58 rfl (lv_at hl 0 rfl) ?_
        obtain ⟨t6, et6, hM⟩ := bS hM
        refine r_getR C hS fl_Merge_18 et6 d_Merge_tell_59 ?_
        refine lv_iload_n hx hb d_Merge_tell_62 rfl (lv_at hl 1 rfl) ?_
        obtain ⟨t7, et7, hM⟩ := bS hM
        refine r_iald C hS et7 d_Merge_tell_63 ?_
        obtain rfl := Option.some.inj hM
        exact r_iret C hS d_Merge_tell_64
      rw [if_neg c16_5] at hM
      refine r_tabD (tgt := 65) hx hb d_Merge_tell_16 [0, 1, 2] (List.forall_mem_cons.mpr ⟨lv_neT c16_3 rfl, (List.forall_mem_cons.mpr ⟨lv_neT c16_4 rfl, (List.forall_mem_cons.mpr ⟨lv_neT c16_5 rfl, (List.forall_mem_nil _)⟩)⟩)⟩) (by decide) (by decide) ?_
      refine lv_aload_n hx hb d_Merge_tell_65 rfl (lv_at hl 0 rfl) ?_
      obtain ⟨t8, et8, hM⟩ := bS hM
      refine r_getR C hS fl_Merge_21 et8 d_Merge_tell_66 ?_
      refine lv_iload_n hx hb d_Merge_tell_69 rfl (lv_at hl 1 rfl) ?_
      obtain ⟨t9, et9, hM⟩ := bS hM
      refine r_iald C hS et9 d_Merge_tell_70 ?_
      obtain rfl := Option.some.inj hM
      exact r_iret C hS d_Merge_tell_71
    · rw [if_neg c9_2] at hM
      refine lv_bipush (v := (-6 : Int32)) hx hb d_Merge_tell_12 (by decide) ?_
      obtain rfl := Option.some.inj hM
      exact r_iret C hS d_Merge_tell_14
theorem c_Merge_tell (l : Launch) (base : Nat) (D : va_G) (cI cZ : ClassId) (h : Hp) (l0 : Nat) (l1 : Int32) (l2 : Int32) {r : Int32} (hM : f_Merge_tell h l0 l1 l2 = some r) : Ct l base D cI cZ y_Merge_tell b_Merge_tell 3 (some .int) 0 0 0 0 h [.ref (base + l0), .int l1, .int l2] h (some (.int r)) :=
  ct_of (by decide) (Nat.le_of_ble_eq_true rfl) (fun p e s m below meth c ls C hS hl => t_Merge_tell C hM _ _ _ hS hl)
theorem d_Merge_tellClash_0 : decode b_Merge_tellClash 0 = .ok (.iload_n 1, 1) := by decide +kernel
theorem d_Merge_tellClash_1 : decode b_Merge_tellClash 1 = .ok (.ifCond .lt 11, 3) := by decide +kernel
theorem d_Merge_tellClash_4 : decode b_Merge_tellClash 4 = .ok (.iload_n 1, 1) := by decide +kernel
theorem d_Merge_tellClash_5 : decode b_Merge_tellClash 5 = .ok (.aload_n 0, 1) := by decide +kernel
theorem d_Merge_tellClash_6 : decode b_Merge_tellClash 6 = .ok (.getfield 34, 3) := by decide +kernel
theorem d_Merge_tellClash_9 : decode b_Merge_tellClash 9 = .ok (.if_icmp .lt 6, 3) := by decide +kernel
theorem d_Merge_tellClash_12 : decode b_Merge_tellClash 12 = .ok (.bipush (-6), 2) := by decide +kernel
theorem d_Merge_tellClash_14 : decode b_Merge_tellClash 14 = .ok (.ireturn, 1) := by decide +kernel
theorem d_Merge_tellClash_15 : decode b_Merge_tellClash 15 = .ok (.iload_n 2, 1) := by decide +kernel
theorem d_Merge_tellClash_16 : decode b_Merge_tellClash 16 = .ok (.ifCond .ne 12, 3) := by decide +kernel
theorem d_Merge_tellClash_19 : decode b_Merge_tellClash 19 = .ok (.aload_n 0, 1) := by decide +kernel
theorem d_Merge_tellClash_20 : decode b_Merge_tellClash 20 = .ok (.getfield 28, 3) := by decide +kernel
theorem d_Merge_tellClash_23 : decode b_Merge_tellClash 23 = .ok (.iload_n 1, 1) := by decide +kernel
theorem d_Merge_tellClash_24 : decode b_Merge_tellClash 24 = .ok (.iaload, 1) := by decide +kernel
theorem d_Merge_tellClash_25 : decode b_Merge_tellClash 25 = .ok (.goto 9, 3) := by decide +kernel
theorem d_Merge_tellClash_28 : decode b_Merge_tellClash 28 = .ok (.aload_n 0, 1) := by decide +kernel
theorem d_Merge_tellClash_29 : decode b_Merge_tellClash 29 = .ok (.getfield 31, 3) := by decide +kernel
theorem d_Merge_tellClash_32 : decode b_Merge_tellClash 32 = .ok (.iload_n 1, 1) := by decide +kernel
theorem d_Merge_tellClash_33 : decode b_Merge_tellClash 33 = .ok (.iaload, 1) := by decide +kernel
theorem d_Merge_tellClash_34 : decode b_Merge_tellClash 34 = .ok (.ireturn, 1) := by decide +kernel
def f_Merge_tellClash (h : Hp) (l0 : Nat) (l1 : Int32) (l2 : Int32) : Option Int32 :=
  ck h 2 l0 (
    if l1 < (0 : Int32) then (
      some (-6 : Int32)
    ) else (
      (gI h 2 l0 7).bind fun t1 =>
      if l1 < t1 then (
        (
          if l2 = (0 : Int32) then (
            (gR h 2 l0 5).bind fun t5 =>
            (gA h false t5 l1).bind fun t6 =>
            some t6
          ) else (
            (gR h 2 l0 6).bind fun t3 =>
            (gA h false t3 l1).bind fun t4 =>
            some t4
          )
        ).bind fun t2 =>
        some t2
      ) else (
        some (-6 : Int32)
      )
    )
  )
theorem o_Merge_tellClash {h : Hp} {l0 : Nat} {l1 : Int32} {l2 : Int32} {r : Int32} (hM : f_Merge_tellClash h l0 l1 l2 = some r) : isO h 2 l0 = true := by
  unfold f_Merge_tellClash at hM
  exact (ck_some hM).1
set_option maxHeartbeats 4000000 in
set_option maxRecDepth 100000 in
theorem t_Merge_tellClash {h : Hp} {l0 : Nat} {l1 : Int32} {l2 : Int32} {r : Int32} (C : Cx base D cI cZ b_Merge_tellClash 3 "MovedFolders$Merge" "tellClash" (some .int) p s m args meth c) (hM : f_Merge_tellClash h l0 l1 l2 = some r) (H : Heap) (locs : List Loc) (ls : Array Slot) (hS : RS base D cI cZ s H locs h) (hl : lv_has ls 3 [(0, .ref (base + l0)), (1, .int l1), (2, .int l2)]) : Wg l base D cI cZ 0 0 0 0 h (some (.int r)) p e s m args below meth c H locs 0 0 (F0 m 0 ls []) := by
  have hx := C.1
  have hb := C.2.1
  unfold f_Merge_tellClash at hM
  replace hM := (ck_some hM).2
  refine lv_iload_n hx hb d_Merge_tellClash_0 rfl (lv_at hl 1 rfl) ?_
  refine lv_if_lt (tgt := 12) hx hb d_Merge_tellClash_1 (by decide) (fun c1_1 => ?_) (fun c1_1 => ?_)
  · rw [if_pos c1_1] at hM
    refine lv_bipush (v := (-6 : Int32)) hx hb d_Merge_tellClash_12 (by decide) ?_
    obtain rfl := Option.some.inj hM
    exact r_iret C hS d_Merge_tellClash_14
  · rw [if_neg c1_1] at hM
    refine lv_iload_n hx hb d_Merge_tellClash_4 rfl (lv_at hl 1 rfl) ?_
    refine lv_aload_n hx hb d_Merge_tellClash_5 rfl (lv_at hl 0 rfl) ?_
    obtain ⟨t1, et1, hM⟩ := bS hM
    refine r_getI C hS fl_Merge_34 et1 d_Merge_tellClash_6 ?_
    refine lv_icmp_lt (tgt := 15) hx hb d_Merge_tellClash_9 (by decide) (fun c9_2 => ?_) (fun c9_2 => ?_)
    · rw [if_pos c9_2] at hM
      refine lv_iload_n hx hb d_Merge_tellClash_15 rfl (lv_at hl 2 rfl) ?_
      obtain ⟨t2, et2, hM⟩ := bS hM
      have kJ34_3 : ∀ (H : Heap) (locs : List Loc) (ls : Array Slot), RS base D cI cZ s H locs h → lv_has ls 3 [] → Wg l base D cI cZ 0 0 0 0 h (some (.int r)) p e s m args below meth c H locs 0 0 (F0 m 34 ls [.int t2]) := by
        intro H locs ls hS hl
        obtain rfl := Option.some.inj hM
        exact r_iret C hS d_Merge_tellClash_34
      refine lv_if_ne (tgt := 28) hx hb d_Merge_tellClash_16 (by decide) (fun c16_4 => ?_) (fun c16_4 => ?_)
      · rw [if_neg c16_4] at et2
        refine lv_aload_n hx hb d_Merge_tellClash_28 rfl (lv_at hl 0 rfl) ?_
        obtain ⟨t3, et3, et2⟩ := bS et2
        refine r_getR C hS fl_Merge_31 et3 d_Merge_tellClash_29 ?_
        refine lv_iload_n hx hb d_Merge_tellClash_32 rfl (lv_at hl 1 rfl) ?_
        obtain ⟨t4, et4, et2⟩ := bS et2
        refine r_iald C hS et4 d_Merge_tellClash_33 ?_
        obtain rfl := Option.some.inj et2
        exact kJ34_3 _ _ _ hS (lv_sub hl [] rfl)
      · rw [if_pos c16_4] at et2
        refine lv_aload_n hx hb d_Merge_tellClash_19 rfl (lv_at hl 0 rfl) ?_
        obtain ⟨t5, et5, et2⟩ := bS et2
        refine r_getR C hS fl_Merge_28 et5 d_Merge_tellClash_20 ?_
        refine lv_iload_n hx hb d_Merge_tellClash_23 rfl (lv_at hl 1 rfl) ?_
        obtain ⟨t6, et6, et2⟩ := bS et2
        refine r_iald C hS et6 d_Merge_tellClash_24 ?_
        refine lv_goto (tgt := 34) hx hb d_Merge_tellClash_25 (by decide) ?_
        obtain rfl := Option.some.inj et2
        exact kJ34_3 _ _ _ hS (lv_sub hl [] rfl)
    · rw [if_neg c9_2] at hM
      refine lv_bipush (v := (-6 : Int32)) hx hb d_Merge_tellClash_12 (by decide) ?_
      obtain rfl := Option.some.inj hM
      exact r_iret C hS d_Merge_tellClash_14
theorem c_Merge_tellClash (l : Launch) (base : Nat) (D : va_G) (cI cZ : ClassId) (h : Hp) (l0 : Nat) (l1 : Int32) (l2 : Int32) {r : Int32} (hM : f_Merge_tellClash h l0 l1 l2 = some r) : Ct l base D cI cZ y_Merge_tellClash b_Merge_tellClash 3 (some .int) 0 0 0 0 h [.ref (base + l0), .int l1, .int l2] h (some (.int r)) :=
  ct_of (by decide) (Nat.le_of_ble_eq_true rfl) (fun p e s m below meth c ls C hS hl => t_Merge_tellClash C hM _ _ _ hS hl)
theorem d_Tree_clear_0 : decode b_Tree_clear 0 = .ok (.aload_n 0, 1) := by decide +kernel
theorem d_Tree_clear_1 : decode b_Tree_clear 1 = .ok (.iconst 0, 1) := by decide +kernel
theorem d_Tree_clear_2 : decode b_Tree_clear 2 = .ok (.putfield 18, 3) := by decide +kernel
theorem d_Tree_clear_5 : decode b_Tree_clear 5 = .ok (.return_, 1) := by decide +kernel
def f_Tree_clear (h : Hp) (l0 : Nat) : Option Hp :=
  ck h 7 l0 (
    (sI h 7 l0 2 (0 : Int32)).bind fun h1 =>
    some h1
  )
theorem o_Tree_clear {h : Hp} {l0 : Nat} {r : Hp} (hM : f_Tree_clear h l0 = some r) : isO h 7 l0 = true := by
  unfold f_Tree_clear at hM
  exact (ck_some hM).1
set_option maxHeartbeats 4000000 in
set_option maxRecDepth 100000 in
theorem t_Tree_clear {h : Hp} {l0 : Nat} {r : Hp} (C : Cx base D cI cZ b_Tree_clear 1 "MovedFolders$Tree" "clear" none p s m args meth c) (hM : f_Tree_clear h l0 = some r) (H : Heap) (locs : List Loc) (ls : Array Slot) (hS : RS base D cI cZ s H locs h) (hl : lv_has ls 1 [(0, .ref (base + l0))]) : Wg l base D cI cZ 0 0 0 0 r none p e s m args below meth c H locs 0 0 (F0 m 0 ls []) := by
  have hx := C.1
  have hb := C.2.1
  unfold f_Tree_clear at hM
  replace hM := (ck_some hM).2
  refine lv_aload_n hx hb d_Tree_clear_0 rfl (lv_at hl 0 rfl) ?_
  refine lv_iconst (v := (0 : Int32)) hx hb d_Tree_clear_1 (by decide) ?_
  obtain ⟨h1, eh1, hM⟩ := bS hM
  refine r_putI C hS fp_Tree_18 eh1 d_Tree_clear_2 (fun H locs hS => ?_)
  obtain rfl := Option.some.inj hM
  exact r_vret C hS d_Tree_clear_5
theorem c_Tree_clear (l : Launch) (base : Nat) (D : va_G) (cI cZ : ClassId) (h : Hp) (l0 : Nat) {r : Hp} (hM : f_Tree_clear h l0 = some r) : Ct l base D cI cZ y_Tree_clear b_Tree_clear 1 none 0 0 0 0 h [.ref (base + l0)] r none :=
  ct_of (by decide) (Nat.le_of_ble_eq_true rfl) (fun p e s m below meth c ls C hS hl => t_Tree_clear C hM _ _ _ hS hl)
theorem d_Tree_find_0 : decode b_Tree_find 0 = .ok (.iconst 0, 1) := by decide +kernel
theorem d_Tree_find_1 : decode b_Tree_find 1 = .ok (.istore_n 2, 1) := by decide +kernel
theorem d_Tree_find_2 : decode b_Tree_find 2 = .ok (.iload_n 2, 1) := by decide +kernel
theorem d_Tree_find_3 : decode b_Tree_find 3 = .ok (.aload_n 0, 1) := by decide +kernel
theorem d_Tree_find_4 : decode b_Tree_find 4 = .ok (.getfield 18, 3) := by decide +kernel
theorem d_Tree_find_7 : decode b_Tree_find 7 = .ok (.if_icmp .ge 21, 3) := by decide +kernel
theorem d_Tree_find_10 : decode b_Tree_find 10 = .ok (.aload_n 0, 1) := by decide +kernel
theorem d_Tree_find_11 : decode b_Tree_find 11 = .ok (.getfield 9, 3) := by decide +kernel
theorem d_Tree_find_14 : decode b_Tree_find 14 = .ok (.iload_n 2, 1) := by decide +kernel
theorem d_Tree_find_15 : decode b_Tree_find 15 = .ok (.iaload, 1) := by decide +kernel
theorem d_Tree_find_16 : decode b_Tree_find 16 = .ok (.iload_n 1, 1) := by decide +kernel
theorem d_Tree_find_17 : decode b_Tree_find 17 = .ok (.if_icmp .ne 5, 3) := by decide +kernel
theorem d_Tree_find_20 : decode b_Tree_find 20 = .ok (.iload_n 2, 1) := by decide +kernel
theorem d_Tree_find_21 : decode b_Tree_find 21 = .ok (.ireturn, 1) := by decide +kernel
theorem d_Tree_find_22 : decode b_Tree_find 22 = .ok (.iinc 2 1, 3) := by decide +kernel
theorem d_Tree_find_25 : decode b_Tree_find 25 = .ok (.goto (-23), 3) := by decide +kernel
theorem d_Tree_find_28 : decode b_Tree_find 28 = .ok (.bipush (-6), 2) := by decide +kernel
theorem d_Tree_find_30 : decode b_Tree_find 30 = .ok (.ireturn, 1) := by decide +kernel
def f_Tree_find_2 (h : Hp) (l0 : Nat) (l1 : Int32) : Nat → Int32 → Option Int32
  | 0, _ => none
  | n + 1, l2 =>
    (gI h 7 l0 2).bind fun t1 =>
    if t1 ≤ l2 then (
      some (-6 : Int32)
    ) else (
      (gR h 7 l0 0).bind fun t2 =>
      (gA h false t2 l2).bind fun t3 =>
      if t3 = l1 then (
        some l2
      ) else (
        f_Tree_find_2 h l0 l1 n (l2 + (1 : Int32))
      )
    )
set_option maxHeartbeats 4000000 in
set_option maxRecDepth 100000 in
theorem t_Tree_find_2 {h : Hp} {l0 : Nat} {l1 : Int32} {r : Int32} (C : Cx base D cI cZ b_Tree_find 3 "MovedFolders$Tree" "find" (some .int) p s m args meth c)  : ∀ (n : Nat) (l2 : Int32), f_Tree_find_2 h l0 l1 n l2 = some r → ∀ (H : Heap) (locs : List Loc) (ls : Array Slot), RS base D cI cZ s H locs h → lv_has ls 3 [(0, .ref (base + l0)), (1, .int l1), (2, .int l2)] → Wg l base D cI cZ 0 0 0 0 h (some (.int r)) p e s m args below meth c H locs 0 0 (F0 m 2 ls []) := by
  have hx := C.1
  have hb := C.2.1
  intro n
  induction n with
  | zero =>
    intro l2 hM
    rw [f_Tree_find_2] at hM
    cases hM
  | succ n ih =>
    intro l2 hM H locs ls hS hl
    rw [f_Tree_find_2] at hM
    refine lv_iload_n hx hb d_Tree_find_2 rfl (lv_at hl 2 rfl) ?_
    refine lv_aload_n hx hb d_Tree_find_3 rfl (lv_at hl 0 rfl) ?_
    obtain ⟨t1, et1, hM⟩ := bS hM
    refine r_getI C hS fl_Tree_18 et1 d_Tree_find_4 ?_
    refine lv_icmp_ge (tgt := 28) hx hb d_Tree_find_7 (by decide) (fun c7_1 => ?_) (fun c7_1 => ?_)
    · rw [if_pos c7_1] at hM
      refine lv_bipush (v := (-6 : Int32)) hx hb d_Tree_find_28 (by decide) ?_
      obtain rfl := Option.some.inj hM
      exact r_iret C hS d_Tree_find_30
    · rw [if_neg c7_1] at hM
      refine lv_aload_n hx hb d_Tree_find_10 rfl (lv_at hl 0 rfl) ?_
      obtain ⟨t2, et2, hM⟩ := bS hM
      refine r_getR C hS fl_Tree_9 et2 d_Tree_find_11 ?_
      refine lv_iload_n hx hb d_Tree_find_14 rfl (lv_at hl 2 rfl) ?_
      obtain ⟨t3, et3, hM⟩ := bS hM
      refine r_iald C hS et3 d_Tree_find_15 ?_
      refine lv_iload_n hx hb d_Tree_find_16 rfl (lv_at hl 1 rfl) ?_
      refine lv_icmp_ne (tgt := 22) hx hb d_Tree_find_17 (by decide) (fun c17_2 => ?_) (fun c17_2 => ?_)
      · rw [if_neg c17_2] at hM
        refine lv_iinc (v := (l2 + (1 : Int32))) (lv' := [(2, .int (l2 + (1 : Int32))), (0, .ref (base + l0)), (1, .int l1)]) hx hb d_Tree_find_22 hl (k := 2) rfl (by rw [oi_1]) (by decide) rfl (fun ls hl => ?_)
        refine lv_goto (tgt := 2) hx hb d_Tree_find_25 (by decide) ?_
        exact ih (l2 + (1 : Int32)) hM _ _ _ hS (lv_sub hl [1, 2, 0] rfl)
      · rw [if_pos c17_2] at hM
        refine lv_iload_n hx hb d_Tree_find_20 rfl (lv_at hl 2 rfl) ?_
        obtain rfl := Option.some.inj hM
        exact r_iret C hS d_Tree_find_21
def f_Tree_find (h : Hp) (l0 : Nat) (l1 : Int32) : Option Int32 :=
  ck h 7 l0 (
    f_Tree_find_2 h l0 l1 FU (0 : Int32)
  )
theorem o_Tree_find {h : Hp} {l0 : Nat} {l1 : Int32} {r : Int32} (hM : f_Tree_find h l0 l1 = some r) : isO h 7 l0 = true := by
  unfold f_Tree_find at hM
  exact (ck_some hM).1
set_option maxHeartbeats 4000000 in
set_option maxRecDepth 100000 in
theorem t_Tree_find {h : Hp} {l0 : Nat} {l1 : Int32} {r : Int32} (C : Cx base D cI cZ b_Tree_find 3 "MovedFolders$Tree" "find" (some .int) p s m args meth c) (hM : f_Tree_find h l0 l1 = some r) (H : Heap) (locs : List Loc) (ls : Array Slot) (hS : RS base D cI cZ s H locs h) (hl : lv_has ls 3 [(0, .ref (base + l0)), (1, .int l1)]) : Wg l base D cI cZ 0 0 0 0 h (some (.int r)) p e s m args below meth c H locs 0 0 (F0 m 0 ls []) := by
  have hx := C.1
  have hb := C.2.1
  unfold f_Tree_find at hM
  replace hM := (ck_some hM).2
  refine lv_iconst (v := (0 : Int32)) hx hb d_Tree_find_0 (by decide) ?_
  refine lv_istore_n (lv' := [(2, .int (0 : Int32)), (0, .ref (base + l0)), (1, .int l1)]) hx hb d_Tree_find_1 rfl hl (by decide) rfl (fun ls hl => ?_)
  exact t_Tree_find_2  C  FU (0 : Int32) hM _ _ _ hS (lv_sub hl [1, 2, 0] rfl)
theorem c_Tree_find (l : Launch) (base : Nat) (D : va_G) (cI cZ : ClassId) (h : Hp) (l0 : Nat) (l1 : Int32) {r : Int32} (hM : f_Tree_find h l0 l1 = some r) : Ct l base D cI cZ y_Tree_find b_Tree_find 3 (some .int) 0 0 0 0 h [.ref (base + l0), .int l1] h (some (.int r)) :=
  ct_of (by decide) (Nat.le_of_ble_eq_true rfl) (fun p e s m below meth c ls C hS hl => t_Tree_find C hM _ _ _ hS hl)
theorem d_Tree_openFor_0 : decode b_Tree_openFor 0 = .ok (.aload_n 0, 1) := by decide +kernel
theorem d_Tree_openFor_1 : decode b_Tree_openFor 1 = .ok (.getfield 18, 3) := by decide +kernel
theorem d_Tree_openFor_4 : decode b_Tree_openFor 4 = .ok (.istore_n 2, 1) := by decide +kernel
theorem d_Tree_openFor_5 : decode b_Tree_openFor 5 = .ok (.aload_n 0, 1) := by decide +kernel
theorem d_Tree_openFor_6 : decode b_Tree_openFor 6 = .ok (.getfield 18, 3) := by decide +kernel
theorem d_Tree_openFor_9 : decode b_Tree_openFor 9 = .ok (.istore_n 3, 1) := by decide +kernel
theorem d_Tree_openFor_10 : decode b_Tree_openFor 10 = .ok (.iload_n 3, 1) := by decide +kernel
theorem d_Tree_openFor_11 : decode b_Tree_openFor 11 = .ok (.ifCond .le 53, 3) := by decide +kernel
theorem d_Tree_openFor_14 : decode b_Tree_openFor 14 = .ok (.aload_n 0, 1) := by decide +kernel
theorem d_Tree_openFor_15 : decode b_Tree_openFor 15 = .ok (.getfield 9, 3) := by decide +kernel
theorem d_Tree_openFor_18 : decode b_Tree_openFor 18 = .ok (.iload_n 3, 1) := by decide +kernel
theorem d_Tree_openFor_19 : decode b_Tree_openFor 19 = .ok (.iconst 1, 1) := by decide +kernel
theorem d_Tree_openFor_20 : decode b_Tree_openFor 20 = .ok (.isub, 1) := by decide +kernel
theorem d_Tree_openFor_21 : decode b_Tree_openFor 21 = .ok (.iaload, 1) := by decide +kernel
theorem d_Tree_openFor_22 : decode b_Tree_openFor 22 = .ok (.iload_n 1, 1) := by decide +kernel
theorem d_Tree_openFor_23 : decode b_Tree_openFor 23 = .ok (.if_icmp .le 41, 3) := by decide +kernel
theorem d_Tree_openFor_26 : decode b_Tree_openFor 26 = .ok (.aload_n 0, 1) := by decide +kernel
theorem d_Tree_openFor_27 : decode b_Tree_openFor 27 = .ok (.getfield 9, 3) := by decide +kernel
theorem d_Tree_openFor_30 : decode b_Tree_openFor 30 = .ok (.iload_n 3, 1) := by decide +kernel
theorem d_Tree_openFor_31 : decode b_Tree_openFor 31 = .ok (.aload_n 0, 1) := by decide +kernel
theorem d_Tree_openFor_32 : decode b_Tree_openFor 32 = .ok (.getfield 9, 3) := by decide +kernel
theorem d_Tree_openFor_35 : decode b_Tree_openFor 35 = .ok (.iload_n 3, 1) := by decide +kernel
theorem d_Tree_openFor_36 : decode b_Tree_openFor 36 = .ok (.iconst 1, 1) := by decide +kernel
theorem d_Tree_openFor_37 : decode b_Tree_openFor 37 = .ok (.isub, 1) := by decide +kernel
theorem d_Tree_openFor_38 : decode b_Tree_openFor 38 = .ok (.iaload, 1) := by decide +kernel
theorem d_Tree_openFor_39 : decode b_Tree_openFor 39 = .ok (.iastore, 1) := by decide +kernel
theorem d_Tree_openFor_40 : decode b_Tree_openFor 40 = .ok (.aload_n 0, 1) := by decide +kernel
theorem d_Tree_openFor_41 : decode b_Tree_openFor 41 = .ok (.getfield 15, 3) := by decide +kernel
theorem d_Tree_openFor_44 : decode b_Tree_openFor 44 = .ok (.iload_n 3, 1) := by decide +kernel
theorem d_Tree_openFor_45 : decode b_Tree_openFor 45 = .ok (.aload_n 0, 1) := by decide +kernel
theorem d_Tree_openFor_46 : decode b_Tree_openFor 46 = .ok (.getfield 15, 3) := by decide +kernel
theorem d_Tree_openFor_49 : decode b_Tree_openFor 49 = .ok (.iload_n 3, 1) := by decide +kernel
theorem d_Tree_openFor_50 : decode b_Tree_openFor 50 = .ok (.iconst 1, 1) := by decide +kernel
theorem d_Tree_openFor_51 : decode b_Tree_openFor 51 = .ok (.isub, 1) := by decide +kernel
theorem d_Tree_openFor_52 : decode b_Tree_openFor 52 = .ok (.iaload, 1) := by decide +kernel
theorem d_Tree_openFor_53 : decode b_Tree_openFor 53 = .ok (.iastore, 1) := by decide +kernel
theorem d_Tree_openFor_54 : decode b_Tree_openFor 54 = .ok (.iload_n 3, 1) := by decide +kernel
theorem d_Tree_openFor_55 : decode b_Tree_openFor 55 = .ok (.iconst 1, 1) := by decide +kernel
theorem d_Tree_openFor_56 : decode b_Tree_openFor 56 = .ok (.isub, 1) := by decide +kernel
theorem d_Tree_openFor_57 : decode b_Tree_openFor 57 = .ok (.istore_n 2, 1) := by decide +kernel
theorem d_Tree_openFor_58 : decode b_Tree_openFor 58 = .ok (.iinc 3 (-1), 3) := by decide +kernel
theorem d_Tree_openFor_61 : decode b_Tree_openFor 61 = .ok (.goto (-51), 3) := by decide +kernel
theorem d_Tree_openFor_64 : decode b_Tree_openFor 64 = .ok (.aload_n 0, 1) := by decide +kernel
theorem d_Tree_openFor_65 : decode b_Tree_openFor 65 = .ok (.dup, 1) := by decide +kernel
theorem d_Tree_openFor_66 : decode b_Tree_openFor 66 = .ok (.getfield 18, 3) := by decide +kernel
theorem d_Tree_openFor_69 : decode b_Tree_openFor 69 = .ok (.iconst 1, 1) := by decide +kernel
theorem d_Tree_openFor_70 : decode b_Tree_openFor 70 = .ok (.iadd, 1) := by decide +kernel
theorem d_Tree_openFor_71 : decode b_Tree_openFor 71 = .ok (.putfield 18, 3) := by decide +kernel
theorem d_Tree_openFor_74 : decode b_Tree_openFor 74 = .ok (.iload_n 2, 1) := by decide +kernel
theorem d_Tree_openFor_75 : decode b_Tree_openFor 75 = .ok (.ireturn, 1) := by decide +kernel
def f_Tree_openFor_64 (h : Hp) (l0 : Nat) (l2 : Int32) : Option (Int32 × Hp) :=
  (gI h 7 l0 2).bind fun t3 =>
  (sI h 7 l0 2 (t3 + (1 : Int32))).bind fun h4 =>
  some (l2, h4)
set_option maxHeartbeats 4000000 in
set_option maxRecDepth 100000 in
theorem t_Tree_openFor_64 {h : Hp} {l0 : Nat} {l2 : Int32} {r : (Int32 × Hp)} (C : Cx base D cI cZ b_Tree_openFor 4 "MovedFolders$Tree" "openFor" (some .int) p s m args meth c)  (hM : f_Tree_openFor_64 h l0 l2 = some r) (H : Heap) (locs : List Loc) (ls : Array Slot) (hS : RS base D cI cZ s H locs h) (hl : lv_has ls 4 [(0, .ref (base + l0)), (2, .int l2)]) : Wg l base D cI cZ 0 0 0 0 r.2 (some (.int r.1)) p e s m args below meth c H locs 0 0 (F0 m 64 ls []) := by
  have hx := C.1
  have hb := C.2.1
  unfold f_Tree_openFor_64 at hM
  refine lv_aload_n hx hb d_Tree_openFor_64 rfl (lv_at hl 0 rfl) ?_
  refine lv_dup hx hb d_Tree_openFor_65 rfl ?_
  obtain ⟨t3, et3, hM⟩ := bS hM
  refine r_getI C hS fl_Tree_18 et3 d_Tree_openFor_66 ?_
  refine lv_iconst (v := (1 : Int32)) hx hb d_Tree_openFor_69 (by decide) ?_
  refine lv_iadd hx hb d_Tree_openFor_70 ?_
  obtain ⟨h4, eh4, hM⟩ := bS hM
  refine r_putI C hS fp_Tree_18 eh4 d_Tree_openFor_71 (fun H locs hS => ?_)
  refine lv_iload_n hx hb d_Tree_openFor_74 rfl (lv_at hl 1 rfl) ?_
  obtain rfl := Option.some.inj hM
  exact r_iret C hS d_Tree_openFor_75
def f_Tree_openFor_10 (l0 : Nat) (l1 : Int32) : Nat → Int32 → Int32 → Hp → Option (Int32 × Hp)
  | 0, _, _, _ => none
  | n + 1, l2, l3, h =>
    if l3 ≤ (0 : Int32) then (
      f_Tree_openFor_64 h l0 l2
    ) else (
      (gR h 7 l0 0).bind fun t5 =>
      (gA h false t5 (l3 - (1 : Int32))).bind fun t6 =>
      if t6 ≤ l1 then (
        f_Tree_openFor_64 h l0 l2
      ) else (
        (gR h 7 l0 0).bind fun t7 =>
        (gR h 7 l0 0).bind fun t8 =>
        (gA h false t8 (l3 - (1 : Int32))).bind fun t9 =>
        (sA h t7 l3 t9).bind fun h10 =>
        (gR h10 7 l0 1).bind fun t11 =>
        (gR h10 7 l0 1).bind fun t12 =>
        (gA h10 false t12 (l3 - (1 : Int32))).bind fun t13 =>
        (sA h10 t11 l3 t13).bind fun h14 =>
        f_Tree_openFor_10 l0 l1 n (l3 - (1 : Int32)) (l3 + (-1 : Int32)) h14
      )
    )
set_option maxHeartbeats 4000000 in
set_option maxRecDepth 100000 in
theorem t_Tree_openFor_10 {l0 : Nat} {l1 : Int32} {r : (Int32 × Hp)} (C : Cx base D cI cZ b_Tree_openFor 4 "MovedFolders$Tree" "openFor" (some .int) p s m args meth c)  : ∀ (n : Nat) (l2 : Int32) (l3 : Int32) (h : Hp), f_Tree_openFor_10 l0 l1 n l2 l3 h = some r → ∀ (H : Heap) (locs : List Loc) (ls : Array Slot), RS base D cI cZ s H locs h → lv_has ls 4 [(0, .ref (base + l0)), (1, .int l1), (2, .int l2), (3, .int l3)] → Wg l base D cI cZ 0 0 0 0 r.2 (some (.int r.1)) p e s m args below meth c H locs 0 0 (F0 m 10 ls []) := by
  have hx := C.1
  have hb := C.2.1
  intro n
  induction n with
  | zero =>
    intro l2 l3 h hM
    rw [f_Tree_openFor_10] at hM
    cases hM
  | succ n ih =>
    intro l2 l3 h hM H locs ls hS hl
    rw [f_Tree_openFor_10] at hM
    refine lv_iload_n hx hb d_Tree_openFor_10 rfl (lv_at hl 3 rfl) ?_
    refine lv_if_le (tgt := 64) hx hb d_Tree_openFor_11 (by decide) (fun c11_1 => ?_) (fun c11_1 => ?_)
    · rw [if_pos c11_1] at hM
      exact t_Tree_openFor_64  C  hM _ _ _ hS (lv_sub hl [0, 2] rfl)
    · rw [if_neg c11_1] at hM
      refine lv_aload_n hx hb d_Tree_openFor_14 rfl (lv_at hl 0 rfl) ?_
      obtain ⟨t5, et5, hM⟩ := bS hM
      refine r_getR C hS fl_Tree_9 et5 d_Tree_openFor_15 ?_
      refine lv_iload_n hx hb d_Tree_openFor_18 rfl (lv_at hl 3 rfl) ?_
      refine lv_iconst (v := (1 : Int32)) hx hb d_Tree_openFor_19 (by decide) ?_
      refine lv_isub hx hb d_Tree_openFor_20 ?_
      obtain ⟨t6, et6, hM⟩ := bS hM
      refine r_iald C hS et6 d_Tree_openFor_21 ?_
      refine lv_iload_n hx hb d_Tree_openFor_22 rfl (lv_at hl 1 rfl) ?_
      refine lv_icmp_le (tgt := 64) hx hb d_Tree_openFor_23 (by decide) (fun c23_2 => ?_) (fun c23_2 => ?_)
      · rw [if_pos c23_2] at hM
        exact t_Tree_openFor_64  C  hM _ _ _ hS (lv_sub hl [0, 2] rfl)
      · rw [if_neg c23_2] at hM
        refine lv_aload_n hx hb d_Tree_openFor_26 rfl (lv_at hl 0 rfl) ?_
        obtain ⟨t7, et7, hM⟩ := bS hM
        refine r_getR C hS fl_Tree_9 et7 d_Tree_openFor_27 ?_
        refine lv_iload_n hx hb d_Tree_openFor_30 rfl (lv_at hl 3 rfl) ?_
        refine lv_aload_n hx hb d_Tree_openFor_31 rfl (lv_at hl 0 rfl) ?_
        obtain ⟨t8, et8, hM⟩ := bS hM
        refine r_getR C hS fl_Tree_9 et8 d_Tree_openFor_32 ?_
        refine lv_iload_n hx hb d_Tree_openFor_35 rfl (lv_at hl 3 rfl) ?_
        refine lv_iconst (v := (1 : Int32)) hx hb d_Tree_openFor_36 (by decide) ?_
        refine lv_isub hx hb d_Tree_openFor_37 ?_
        obtain ⟨t9, et9, hM⟩ := bS hM
        refine r_iald C hS et9 d_Tree_openFor_38 ?_
        obtain ⟨h10, eh10, hM⟩ := bS hM
        refine r_iast C hS eh10 d_Tree_openFor_39 (fun H locs hS => ?_)
        refine lv_aload_n hx hb d_Tree_openFor_40 rfl (lv_at hl 0 rfl) ?_
        obtain ⟨t11, et11, hM⟩ := bS hM
        refine r_getR C hS fl_Tree_15 et11 d_Tree_openFor_41 ?_
        refine lv_iload_n hx hb d_Tree_openFor_44 rfl (lv_at hl 3 rfl) ?_
        refine lv_aload_n hx hb d_Tree_openFor_45 rfl (lv_at hl 0 rfl) ?_
        obtain ⟨t12, et12, hM⟩ := bS hM
        refine r_getR C hS fl_Tree_15 et12 d_Tree_openFor_46 ?_
        refine lv_iload_n hx hb d_Tree_openFor_49 rfl (lv_at hl 3 rfl) ?_
        refine lv_iconst (v := (1 : Int32)) hx hb d_Tree_openFor_50 (by decide) ?_
        refine lv_isub hx hb d_Tree_openFor_51 ?_
        obtain ⟨t13, et13, hM⟩ := bS hM
        refine r_iald C hS et13 d_Tree_openFor_52 ?_
        obtain ⟨h14, eh14, hM⟩ := bS hM
        refine r_iast C hS eh14 d_Tree_openFor_53 (fun H locs hS => ?_)
        refine lv_iload_n hx hb d_Tree_openFor_54 rfl (lv_at hl 3 rfl) ?_
        refine lv_iconst (v := (1 : Int32)) hx hb d_Tree_openFor_55 (by decide) ?_
        refine lv_isub hx hb d_Tree_openFor_56 ?_
        refine lv_istore_n (lv' := [(2, .int (l3 - (1 : Int32))), (0, .ref (base + l0)), (1, .int l1), (3, .int l3)]) hx hb d_Tree_openFor_57 rfl hl (by decide) rfl (fun ls hl => ?_)
        refine lv_iinc (v := (l3 + (-1 : Int32))) (lv' := [(3, .int (l3 + (-1 : Int32))), (2, .int (l3 - (1 : Int32))), (0, .ref (base + l0)), (1, .int l1)]) hx hb d_Tree_openFor_58 hl (k := 3) rfl (by rw [oi_m1]) (by decide) rfl (fun ls hl => ?_)
        refine lv_goto (tgt := 10) hx hb d_Tree_openFor_61 (by decide) ?_
        exact ih (l3 - (1 : Int32)) (l3 + (-1 : Int32)) h14 hM _ _ _ hS (lv_sub hl [2, 3, 1, 0] rfl)
def f_Tree_openFor (h : Hp) (l0 : Nat) (l1 : Int32) : Option (Int32 × Hp) :=
  ck h 7 l0 (
    (gI h 7 l0 2).bind fun t1 =>
    (gI h 7 l0 2).bind fun t2 =>
    f_Tree_openFor_10 l0 l1 FU t1 t2 h
  )
theorem o_Tree_openFor {h : Hp} {l0 : Nat} {l1 : Int32} {r : (Int32 × Hp)} (hM : f_Tree_openFor h l0 l1 = some r) : isO h 7 l0 = true := by
  unfold f_Tree_openFor at hM
  exact (ck_some hM).1
set_option maxHeartbeats 4000000 in
set_option maxRecDepth 100000 in
theorem t_Tree_openFor {h : Hp} {l0 : Nat} {l1 : Int32} {r : (Int32 × Hp)} (C : Cx base D cI cZ b_Tree_openFor 4 "MovedFolders$Tree" "openFor" (some .int) p s m args meth c) (hM : f_Tree_openFor h l0 l1 = some r) (H : Heap) (locs : List Loc) (ls : Array Slot) (hS : RS base D cI cZ s H locs h) (hl : lv_has ls 4 [(0, .ref (base + l0)), (1, .int l1)]) : Wg l base D cI cZ 0 0 0 0 r.2 (some (.int r.1)) p e s m args below meth c H locs 0 0 (F0 m 0 ls []) := by
  have hx := C.1
  have hb := C.2.1
  unfold f_Tree_openFor at hM
  replace hM := (ck_some hM).2
  refine lv_aload_n hx hb d_Tree_openFor_0 rfl (lv_at hl 0 rfl) ?_
  obtain ⟨t1, et1, hM⟩ := bS hM
  refine r_getI C hS fl_Tree_18 et1 d_Tree_openFor_1 ?_
  refine lv_istore_n (lv' := [(2, .int t1), (0, .ref (base + l0)), (1, .int l1)]) hx hb d_Tree_openFor_4 rfl hl (by decide) rfl (fun ls hl => ?_)
  refine lv_aload_n hx hb d_Tree_openFor_5 rfl (lv_at hl 1 rfl) ?_
  obtain ⟨t2, et2, hM⟩ := bS hM
  refine r_getI C hS fl_Tree_18 et2 d_Tree_openFor_6 ?_
  refine lv_istore_n (lv' := [(3, .int t2), (2, .int t1), (0, .ref (base + l0)), (1, .int l1)]) hx hb d_Tree_openFor_9 rfl hl (by decide) rfl (fun ls hl => ?_)
  exact t_Tree_openFor_10  C  FU t1 t2 h hM _ _ _ hS (lv_sub hl [2, 3, 1, 0] rfl)
theorem c_Tree_openFor (l : Launch) (base : Nat) (D : va_G) (cI cZ : ClassId) (h : Hp) (l0 : Nat) (l1 : Int32) {r : (Int32 × Hp)} (hM : f_Tree_openFor h l0 l1 = some r) : Ct l base D cI cZ y_Tree_openFor b_Tree_openFor 4 (some .int) 0 0 0 0 h [.ref (base + l0), .int l1] r.2 (some (.int r.1)) :=
  ct_of (by decide) (Nat.le_of_ble_eq_true rfl) (fun p e s m below meth c ls C hS hl => t_Tree_openFor C hM _ _ _ hS hl)
end MM0
