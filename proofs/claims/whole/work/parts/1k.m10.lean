section MM10
variable {l : Launch} {base : Nat} {D : va_G} {cI cZ : ClassId} {p : Program} {e : Env} {s : State} {m : MethodId} {args : Array Value} {below : List Frame} {meth : Method} {c : Code}
theorem d_Mo_change_0 : decode b_Mo_change 0 = .ok (.aload_n 0, 1) := by decide +kernel
theorem d_Mo_change_1 : decode b_Mo_change 1 = .ok (.iload_n 1, 1) := by decide +kernel
theorem d_Mo_change_2 : decode b_Mo_change 2 = .ok (.iaload, 1) := by decide +kernel
theorem d_Mo_change_3 : decode b_Mo_change 3 = .ok (.istore_n 3, 1) := by decide +kernel
theorem d_Mo_change_4 : decode b_Mo_change 4 = .ok (.aload_n 0, 1) := by decide +kernel
theorem d_Mo_change_5 : decode b_Mo_change 5 = .ok (.iload_n 1, 1) := by decide +kernel
theorem d_Mo_change_6 : decode b_Mo_change 6 = .ok (.aload_n 0, 1) := by decide +kernel
theorem d_Mo_change_7 : decode b_Mo_change 7 = .ok (.iload_n 2, 1) := by decide +kernel
theorem d_Mo_change_8 : decode b_Mo_change 8 = .ok (.iaload, 1) := by decide +kernel
theorem d_Mo_change_9 : decode b_Mo_change 9 = .ok (.iastore, 1) := by decide +kernel
theorem d_Mo_change_10 : decode b_Mo_change 10 = .ok (.aload_n 0, 1) := by decide +kernel
theorem d_Mo_change_11 : decode b_Mo_change 11 = .ok (.iload_n 2, 1) := by decide +kernel
theorem d_Mo_change_12 : decode b_Mo_change 12 = .ok (.iload_n 3, 1) := by decide +kernel
theorem d_Mo_change_13 : decode b_Mo_change 13 = .ok (.iastore, 1) := by decide +kernel
theorem d_Mo_change_14 : decode b_Mo_change 14 = .ok (.return_, 1) := by decide +kernel
def f_Mo_change (h : Hp) (l0 : Nat) (l1 : Int32) (l2 : Int32) : Option Hp :=
  (gA h false l0 l1).bind fun t1 =>
  (gA h false l0 l2).bind fun t2 =>
  (sA h l0 l1 t2).bind fun h3 =>
  (sA h3 l0 l2 t1).bind fun h4 =>
  some h4
set_option maxHeartbeats 4000000 in
set_option maxRecDepth 100000 in
theorem t_Mo_change {h : Hp} {l0 : Nat} {l1 : Int32} {l2 : Int32} {r : Hp} (C : Cx base D cI cZ b_Mo_change 4 "MovedFoldersModel" "change" none p s m args meth c) (hM : f_Mo_change h l0 l1 l2 = some r) (H : Heap) (locs : List Loc) (ls : Array Slot) (hS : RS base D cI cZ s H locs h) (hl : lv_has ls 4 [(0, .ref (base + l0)), (1, .int l1), (2, .int l2)]) : Wg l base D cI cZ 0 0 0 0 r none p e s m args below meth c H locs 0 0 (F0 m 0 ls []) := by
  have hx := C.1
  have hb := C.2.1
  unfold f_Mo_change at hM
  refine lv_aload_n hx hb d_Mo_change_0 rfl (lv_at hl 0 rfl) ?_
  refine lv_iload_n hx hb d_Mo_change_1 rfl (lv_at hl 1 rfl) ?_
  obtain ⟨t1, et1, hM⟩ := bS hM
  refine r_iald C hS et1 d_Mo_change_2 ?_
  refine lv_istore_n (lv' := [(3, .int t1), (0, .ref (base + l0)), (1, .int l1), (2, .int l2)]) hx hb d_Mo_change_3 rfl hl (by decide) rfl (fun ls hl => ?_)
  refine lv_aload_n hx hb d_Mo_change_4 rfl (lv_at hl 1 rfl) ?_
  refine lv_iload_n hx hb d_Mo_change_5 rfl (lv_at hl 2 rfl) ?_
  refine lv_aload_n hx hb d_Mo_change_6 rfl (lv_at hl 1 rfl) ?_
  refine lv_iload_n hx hb d_Mo_change_7 rfl (lv_at hl 3 rfl) ?_
  obtain ⟨t2, et2, hM⟩ := bS hM
  refine r_iald C hS et2 d_Mo_change_8 ?_
  obtain ⟨h3, eh3, hM⟩ := bS hM
  refine r_iast C hS eh3 d_Mo_change_9 (fun H locs hS => ?_)
  refine lv_aload_n hx hb d_Mo_change_10 rfl (lv_at hl 1 rfl) ?_
  refine lv_iload_n hx hb d_Mo_change_11 rfl (lv_at hl 3 rfl) ?_
  refine lv_iload_n hx hb d_Mo_change_12 rfl (lv_at hl 0 rfl) ?_
  obtain ⟨h4, eh4, hM⟩ := bS hM
  refine r_iast C hS eh4 d_Mo_change_13 (fun H locs hS => ?_)
  obtain rfl := Option.some.inj hM
  exact r_vret C hS d_Mo_change_14
theorem c_Mo_change (l : Launch) (base : Nat) (D : va_G) (cI cZ : ClassId) (h : Hp) (l0 : Nat) (l1 : Int32) (l2 : Int32) {r : Hp} (hM : f_Mo_change h l0 l1 l2 = some r) : Ct l base D cI cZ y_Mo_change b_Mo_change 4 none 0 0 0 0 h [.ref (base + l0), .int l1, .int l2] r none :=
  ct_of (by decide) (Nat.le_of_ble_eq_true rfl) (fun p e s m below meth c ls C hS hl => t_Mo_change C hM _ _ _ hS hl)
theorem d_Mo_sortAll_0 : decode b_Mo_sortAll 0 = .ok (.iconst 0, 1) := by decide +kernel
theorem d_Mo_sortAll_1 : decode b_Mo_sortAll 1 = .ok (.istore_n 1, 1) := by decide +kernel
theorem d_Mo_sortAll_2 : decode b_Mo_sortAll 2 = .ok (.iload_n 1, 1) := by decide +kernel
theorem d_Mo_sortAll_3 : decode b_Mo_sortAll 3 = .ok (.aload_n 0, 1) := by decide +kernel
theorem d_Mo_sortAll_4 : decode b_Mo_sortAll 4 = .ok (.getfield 219, 3) := by decide +kernel
theorem d_Mo_sortAll_7 : decode b_Mo_sortAll 7 = .ok (.if_icmp .ge 72, 3) := by decide +kernel
theorem d_Mo_sortAll_10 : decode b_Mo_sortAll 10 = .ok (.iload_n 1, 1) := by decide +kernel
theorem d_Mo_sortAll_11 : decode b_Mo_sortAll 11 = .ok (.iconst 1, 1) := by decide +kernel
theorem d_Mo_sortAll_12 : decode b_Mo_sortAll 12 = .ok (.iadd, 1) := by decide +kernel
theorem d_Mo_sortAll_13 : decode b_Mo_sortAll 13 = .ok (.istore_n 2, 1) := by decide +kernel
theorem d_Mo_sortAll_14 : decode b_Mo_sortAll 14 = .ok (.iload_n 2, 1) := by decide +kernel
theorem d_Mo_sortAll_15 : decode b_Mo_sortAll 15 = .ok (.aload_n 0, 1) := by decide +kernel
theorem d_Mo_sortAll_16 : decode b_Mo_sortAll 16 = .ok (.getfield 219, 3) := by decide +kernel
theorem d_Mo_sortAll_19 : decode b_Mo_sortAll 19 = .ok (.if_icmp .ge 54, 3) := by decide +kernel
theorem d_Mo_sortAll_22 : decode b_Mo_sortAll 22 = .ok (.aload_n 0, 1) := by decide +kernel
theorem d_Mo_sortAll_23 : decode b_Mo_sortAll 23 = .ok (.iload_n 2, 1) := by decide +kernel
theorem d_Mo_sortAll_24 : decode b_Mo_sortAll 24 = .ok (.iload_n 1, 1) := by decide +kernel
theorem d_Mo_sortAll_25 : decode b_Mo_sortAll 25 = .ok (.invokevirtual 252, 3) := by decide +kernel
theorem d_Mo_sortAll_28 : decode b_Mo_sortAll 28 = .ok (.ifCond .eq 39, 3) := by decide +kernel
theorem d_Mo_sortAll_31 : decode b_Mo_sortAll 31 = .ok (.aload_n 0, 1) := by decide +kernel
theorem d_Mo_sortAll_32 : decode b_Mo_sortAll 32 = .ok (.getfield 42, 3) := by decide +kernel
theorem d_Mo_sortAll_35 : decode b_Mo_sortAll 35 = .ok (.iload_n 1, 1) := by decide +kernel
theorem d_Mo_sortAll_36 : decode b_Mo_sortAll 36 = .ok (.iload_n 2, 1) := by decide +kernel
theorem d_Mo_sortAll_37 : decode b_Mo_sortAll 37 = .ok (.invokestatic 255, 3) := by decide +kernel
theorem d_Mo_sortAll_40 : decode b_Mo_sortAll 40 = .ok (.aload_n 0, 1) := by decide +kernel
theorem d_Mo_sortAll_41 : decode b_Mo_sortAll 41 = .ok (.getfield 45, 3) := by decide +kernel
theorem d_Mo_sortAll_44 : decode b_Mo_sortAll 44 = .ok (.iload_n 1, 1) := by decide +kernel
theorem d_Mo_sortAll_45 : decode b_Mo_sortAll 45 = .ok (.iload_n 2, 1) := by decide +kernel
theorem d_Mo_sortAll_46 : decode b_Mo_sortAll 46 = .ok (.invokestatic 255, 3) := by decide +kernel
theorem d_Mo_sortAll_49 : decode b_Mo_sortAll 49 = .ok (.aload_n 0, 1) := by decide +kernel
theorem d_Mo_sortAll_50 : decode b_Mo_sortAll 50 = .ok (.getfield 48, 3) := by decide +kernel
theorem d_Mo_sortAll_53 : decode b_Mo_sortAll 53 = .ok (.iload_n 1, 1) := by decide +kernel
theorem d_Mo_sortAll_54 : decode b_Mo_sortAll 54 = .ok (.iload_n 2, 1) := by decide +kernel
theorem d_Mo_sortAll_55 : decode b_Mo_sortAll 55 = .ok (.invokestatic 255, 3) := by decide +kernel
theorem d_Mo_sortAll_58 : decode b_Mo_sortAll 58 = .ok (.aload_n 0, 1) := by decide +kernel
theorem d_Mo_sortAll_59 : decode b_Mo_sortAll 59 = .ok (.getfield 51, 3) := by decide +kernel
theorem d_Mo_sortAll_62 : decode b_Mo_sortAll 62 = .ok (.iload_n 1, 1) := by decide +kernel
theorem d_Mo_sortAll_63 : decode b_Mo_sortAll 63 = .ok (.iload_n 2, 1) := by decide +kernel
theorem d_Mo_sortAll_64 : decode b_Mo_sortAll 64 = .ok (.invokestatic 255, 3) := by decide +kernel
theorem d_Mo_sortAll_67 : decode b_Mo_sortAll 67 = .ok (.iinc 2 1, 3) := by decide +kernel
theorem d_Mo_sortAll_70 : decode b_Mo_sortAll 70 = .ok (.goto (-56), 3) := by decide +kernel
theorem d_Mo_sortAll_73 : decode b_Mo_sortAll 73 = .ok (.iinc 1 1, 3) := by decide +kernel
theorem d_Mo_sortAll_76 : decode b_Mo_sortAll 76 = .ok (.goto (-74), 3) := by decide +kernel
theorem d_Mo_sortAll_79 : decode b_Mo_sortAll 79 = .ok (.return_, 1) := by decide +kernel
def f_Mo_sortAll_14 (l0 : Nat) (l1 : Int32) (k2 : Int32 → Hp → Option Hp) : Nat → Int32 → Hp → Option Hp
  | 0, _, _ => none
  | n + 1, l2, h =>
    (gI h 9 l0 20).bind fun t2 =>
    if t2 ≤ l2 then (
      k2 (l1 + (1 : Int32)) h
    ) else (
      (f_Mo_isBefore h l0 l2 l1).bind fun t3 =>
      (
        if t3 = (0 : Int32) then (
          some h
        ) else (
          (gR h 9 l0 16).bind fun t5 =>
          (f_Mo_change h t5 l1 l2).bind fun h6 =>
          (gR h6 9 l0 17).bind fun t7 =>
          (f_Mo_change h6 t7 l1 l2).bind fun h8 =>
          (gR h8 9 l0 18).bind fun t9 =>
          (f_Mo_change h8 t9 l1 l2).bind fun h10 =>
          (gR h10 9 l0 19).bind fun t11 =>
          (f_Mo_change h10 t11 l1 l2).bind fun h12 =>
          some h12
        )
      ).bind fun h4 =>
      f_Mo_sortAll_14 l0 l1 k2 n (l2 + (1 : Int32)) h4
    )
set_option maxHeartbeats 4000000 in
set_option maxRecDepth 100000 in
theorem t_Mo_sortAll_14 {l0 : Nat} {l1 : Int32} {k2 : Int32 → Hp → Option Hp} {r : Hp} (C : Cx base D cI cZ b_Mo_sortAll 3 "MovedFoldersModel" "sortAll" none p s m args meth c) (hk2 : ∀ (l1 : Int32) (h : Hp), k2 l1 h = some r → ∀ (H : Heap) (locs : List Loc) (ls : Array Slot), RS base D cI cZ s H locs h → lv_has ls 3 [(0, .ref (base + l0)), (1, .int l1)] → Wg l base D cI cZ 1 23 0 0 r none p e s m args below meth c H locs 0 0 (F0 m 2 ls [])) : ∀ (n : Nat) (l2 : Int32) (h : Hp), f_Mo_sortAll_14 l0 l1 k2 n l2 h = some r → ∀ (H : Heap) (locs : List Loc) (ls : Array Slot), RS base D cI cZ s H locs h → lv_has ls 3 [(0, .ref (base + l0)), (1, .int l1), (2, .int l2)] → Wg l base D cI cZ 1 23 0 0 r none p e s m args below meth c H locs 0 0 (F0 m 14 ls []) := by
  have hx := C.1
  have hb := C.2.1
  intro n
  induction n with
  | zero =>
    intro l2 h hM
    rw [f_Mo_sortAll_14] at hM
    cases hM
  | succ n ih =>
    intro l2 h hM H locs ls hS hl
    rw [f_Mo_sortAll_14] at hM
    refine lv_iload_n hx hb d_Mo_sortAll_14 rfl (lv_at hl 2 rfl) ?_
    refine lv_aload_n hx hb d_Mo_sortAll_15 rfl (lv_at hl 0 rfl) ?_
    obtain ⟨t2, et2, hM⟩ := bS hM
    refine r_getI C hS fl_Mo_219 et2 d_Mo_sortAll_16 ?_
    refine lv_icmp_ge (tgt := 73) hx hb d_Mo_sortAll_19 (by decide) (fun c19_2 => ?_) (fun c19_2 => ?_)
    · rw [if_pos c19_2] at hM
      refine lv_iinc (v := (l1 + (1 : Int32))) (lv' := [(1, .int (l1 + (1 : Int32))), (0, .ref (base + l0)), (2, .int l2)]) hx hb d_Mo_sortAll_73 hl (k := 1) rfl (by rw [oi_1]) (by decide) rfl (fun ls hl => ?_)
      refine lv_goto (tgt := 2) hx hb d_Mo_sortAll_76 (by decide) ?_
      exact hk2 (l1 + (1 : Int32)) h hM _ _ _ hS (lv_sub hl [1, 0] rfl)
    · rw [if_neg c19_2] at hM
      refine lv_aload_n hx hb d_Mo_sortAll_22 rfl (lv_at hl 0 rfl) ?_
      refine lv_iload_n hx hb d_Mo_sortAll_23 rfl (lv_at hl 2 rfl) ?_
      refine lv_iload_n hx hb d_Mo_sortAll_24 rfl (lv_at hl 1 rfl) ?_
      obtain ⟨t3, et3, hM⟩ := bS hM
      refine r_callVi (x := t3) C hS cv_Mo_252 (c_Mo_isBefore l base D cI cZ h l0 l2 l1 et3) (o_Mo_isBefore et3) (rest := []) rfl hl.1 rfl (Nat.le_of_ble_eq_true rfl) ⟨(Nat.le_of_ble_eq_true rfl), (Nat.le_of_ble_eq_true rfl)⟩ ⟨(Nat.le_of_ble_eq_true rfl), (Nat.le_of_ble_eq_true rfl)⟩ d_Mo_sortAll_25 (fun H locs hS => ?_)
      obtain ⟨h4, eh4, hM⟩ := bS hM
      have kJ67_3 : ∀ (H : Heap) (locs : List Loc) (ls : Array Slot), RS base D cI cZ s H locs h4 → lv_has ls 3 [(0, .ref (base + l0)), (1, .int l1), (2, .int l2)] → Wg l base D cI cZ 1 23 0 0 r none p e s m args below meth c H locs 0 0 (F0 m 67 ls []) := by
        intro H locs ls hS hl
        refine lv_iinc (v := (l2 + (1 : Int32))) (lv' := [(2, .int (l2 + (1 : Int32))), (0, .ref (base + l0)), (1, .int l1)]) hx hb d_Mo_sortAll_67 hl (k := 2) rfl (by rw [oi_1]) (by decide) rfl (fun ls hl => ?_)
        refine lv_goto (tgt := 14) hx hb d_Mo_sortAll_70 (by decide) ?_
        exact ih (l2 + (1 : Int32)) h4 hM _ _ _ hS (lv_sub hl [1, 2, 0] rfl)
      refine lv_if_eq (tgt := 67) hx hb d_Mo_sortAll_28 (by decide) (fun c28_4 => ?_) (fun c28_4 => ?_)
      · rw [if_pos c28_4] at eh4
        obtain rfl := Option.some.inj eh4
        exact kJ67_3 _ _ _ hS (lv_sub hl [0, 1, 2] rfl)
      · rw [if_neg c28_4] at eh4
        refine lv_aload_n hx hb d_Mo_sortAll_31 rfl (lv_at hl 0 rfl) ?_
        obtain ⟨t5, et5, eh4⟩ := bS eh4
        refine r_getR C hS fl_Mo_42 et5 d_Mo_sortAll_32 ?_
        refine lv_iload_n hx hb d_Mo_sortAll_35 rfl (lv_at hl 1 rfl) ?_
        refine lv_iload_n hx hb d_Mo_sortAll_36 rfl (lv_at hl 2 rfl) ?_
        obtain ⟨h6, eh6, eh4⟩ := bS eh4
        refine r_callSv C hS cs_Mo_255 (c_Mo_change l base D cI cZ h t5 l1 l2 eh6) (rest := []) rfl hl.1 rfl (Nat.le_of_ble_eq_true rfl) ⟨(Nat.le_of_ble_eq_true rfl), (Nat.le_of_ble_eq_true rfl)⟩ ⟨(Nat.le_of_ble_eq_true rfl), (Nat.le_of_ble_eq_true rfl)⟩ d_Mo_sortAll_37 (fun H locs hS => ?_)
        refine lv_aload_n hx hb d_Mo_sortAll_40 rfl (lv_at hl 0 rfl) ?_
        obtain ⟨t7, et7, eh4⟩ := bS eh4
        refine r_getR C hS fl_Mo_45 et7 d_Mo_sortAll_41 ?_
        refine lv_iload_n hx hb d_Mo_sortAll_44 rfl (lv_at hl 1 rfl) ?_
        refine lv_iload_n hx hb d_Mo_sortAll_45 rfl (lv_at hl 2 rfl) ?_
        obtain ⟨h8, eh8, eh4⟩ := bS eh4
        refine r_callSv C hS cs_Mo_255 (c_Mo_change l base D cI cZ h6 t7 l1 l2 eh8) (rest := []) rfl hl.1 rfl (Nat.le_of_ble_eq_true rfl) ⟨(Nat.le_of_ble_eq_true rfl), (Nat.le_of_ble_eq_true rfl)⟩ ⟨(Nat.le_of_ble_eq_true rfl), (Nat.le_of_ble_eq_true rfl)⟩ d_Mo_sortAll_46 (fun H locs hS => ?_)
        refine lv_aload_n hx hb d_Mo_sortAll_49 rfl (lv_at hl 0 rfl) ?_
        obtain ⟨t9, et9, eh4⟩ := bS eh4
        refine r_getR C hS fl_Mo_48 et9 d_Mo_sortAll_50 ?_
        refine lv_iload_n hx hb d_Mo_sortAll_53 rfl (lv_at hl 1 rfl) ?_
        refine lv_iload_n hx hb d_Mo_sortAll_54 rfl (lv_at hl 2 rfl) ?_
        obtain ⟨h10, eh10, eh4⟩ := bS eh4
        refine r_callSv C hS cs_Mo_255 (c_Mo_change l base D cI cZ h8 t9 l1 l2 eh10) (rest := []) rfl hl.1 rfl (Nat.le_of_ble_eq_true rfl) ⟨(Nat.le_of_ble_eq_true rfl), (Nat.le_of_ble_eq_true rfl)⟩ ⟨(Nat.le_of_ble_eq_true rfl), (Nat.le_of_ble_eq_true rfl)⟩ d_Mo_sortAll_55 (fun H locs hS => ?_)
        refine lv_aload_n hx hb d_Mo_sortAll_58 rfl (lv_at hl 0 rfl) ?_
        obtain ⟨t11, et11, eh4⟩ := bS eh4
        refine r_getR C hS fl_Mo_51 et11 d_Mo_sortAll_59 ?_
        refine lv_iload_n hx hb d_Mo_sortAll_62 rfl (lv_at hl 1 rfl) ?_
        refine lv_iload_n hx hb d_Mo_sortAll_63 rfl (lv_at hl 2 rfl) ?_
        obtain ⟨h12, eh12, eh4⟩ := bS eh4
        refine r_callSv C hS cs_Mo_255 (c_Mo_change l base D cI cZ h10 t11 l1 l2 eh12) (rest := []) rfl hl.1 rfl (Nat.le_of_ble_eq_true rfl) ⟨(Nat.le_of_ble_eq_true rfl), (Nat.le_of_ble_eq_true rfl)⟩ ⟨(Nat.le_of_ble_eq_true rfl), (Nat.le_of_ble_eq_true rfl)⟩ d_Mo_sortAll_64 (fun H locs hS => ?_)
        obtain rfl := Option.some.inj eh4
        exact kJ67_3 _ _ _ hS (lv_sub hl [0, 1, 2] rfl)
def f_Mo_sortAll_2 (l0 : Nat) : Nat → Int32 → Hp → Option Hp
  | 0, _, _ => none
  | n + 1, l1, h =>
    (gI h 9 l0 20).bind fun t1 =>
    if t1 ≤ l1 then (
      some h
    ) else (
      f_Mo_sortAll_14 l0 l1 (fun l1 h => f_Mo_sortAll_2 l0 n l1 h) FU (l1 + (1 : Int32)) h
    )
set_option maxHeartbeats 4000000 in
set_option maxRecDepth 100000 in
theorem t_Mo_sortAll_2 {l0 : Nat} {r : Hp} (C : Cx base D cI cZ b_Mo_sortAll 3 "MovedFoldersModel" "sortAll" none p s m args meth c)  : ∀ (n : Nat) (l1 : Int32) (h : Hp), f_Mo_sortAll_2 l0 n l1 h = some r → ∀ (H : Heap) (locs : List Loc) (ls : Array Slot), RS base D cI cZ s H locs h → lv_has ls 3 [(0, .ref (base + l0)), (1, .int l1)] → Wg l base D cI cZ 1 23 0 0 r none p e s m args below meth c H locs 0 0 (F0 m 2 ls []) := by
  have hx := C.1
  have hb := C.2.1
  intro n
  induction n with
  | zero =>
    intro l1 h hM
    rw [f_Mo_sortAll_2] at hM
    cases hM
  | succ n ih =>
    intro l1 h hM H locs ls hS hl
    rw [f_Mo_sortAll_2] at hM
    refine lv_iload_n hx hb d_Mo_sortAll_2 rfl (lv_at hl 1 rfl) ?_
    refine lv_aload_n hx hb d_Mo_sortAll_3 rfl (lv_at hl 0 rfl) ?_
    obtain ⟨t1, et1, hM⟩ := bS hM
    refine r_getI C hS fl_Mo_219 et1 d_Mo_sortAll_4 ?_
    refine lv_icmp_ge (tgt := 79) hx hb d_Mo_sortAll_7 (by decide) (fun c7_1 => ?_) (fun c7_1 => ?_)
    · rw [if_pos c7_1] at hM
      obtain rfl := Option.some.inj hM
      exact r_vret C hS d_Mo_sortAll_79
    · rw [if_neg c7_1] at hM
      refine lv_iload_n hx hb d_Mo_sortAll_10 rfl (lv_at hl 1 rfl) ?_
      refine lv_iconst (v := (1 : Int32)) hx hb d_Mo_sortAll_11 (by decide) ?_
      refine lv_iadd hx hb d_Mo_sortAll_12 ?_
      refine lv_istore_n (lv' := [(2, .int (l1 + (1 : Int32))), (0, .ref (base + l0)), (1, .int l1)]) hx hb d_Mo_sortAll_13 rfl hl (by decide) rfl (fun ls hl => ?_)
      exact t_Mo_sortAll_14 (k2 := (fun l1 h => f_Mo_sortAll_2 l0 n l1 h)) C ih FU (l1 + (1 : Int32)) h hM _ _ _ hS (lv_sub hl [1, 2, 0] rfl)
def f_Mo_sortAll (h : Hp) (l0 : Nat) : Option Hp :=
  ck h 9 l0 (
    f_Mo_sortAll_2 l0 FU (0 : Int32) h
  )
theorem o_Mo_sortAll {h : Hp} {l0 : Nat} {r : Hp} (hM : f_Mo_sortAll h l0 = some r) : isO h 9 l0 = true := by
  unfold f_Mo_sortAll at hM
  exact (ck_some hM).1
set_option maxHeartbeats 4000000 in
set_option maxRecDepth 100000 in
theorem t_Mo_sortAll {h : Hp} {l0 : Nat} {r : Hp} (C : Cx base D cI cZ b_Mo_sortAll 3 "MovedFoldersModel" "sortAll" none p s m args meth c) (hM : f_Mo_sortAll h l0 = some r) (H : Heap) (locs : List Loc) (ls : Array Slot) (hS : RS base D cI cZ s H locs h) (hl : lv_has ls 3 [(0, .ref (base + l0))]) : Wg l base D cI cZ 1 23 0 0 r none p e s m args below meth c H locs 0 0 (F0 m 0 ls []) := by
  have hx := C.1
  have hb := C.2.1
  unfold f_Mo_sortAll at hM
  replace hM := (ck_some hM).2
  refine lv_iconst (v := (0 : Int32)) hx hb d_Mo_sortAll_0 (by decide) ?_
  refine lv_istore_n (lv' := [(1, .int (0 : Int32)), (0, .ref (base + l0))]) hx hb d_Mo_sortAll_1 rfl hl (by decide) rfl (fun ls hl => ?_)
  exact t_Mo_sortAll_2  C  FU (0 : Int32) h hM _ _ _ hS (lv_sub hl [1, 0] rfl)
theorem c_Mo_sortAll (l : Launch) (base : Nat) (D : va_G) (cI cZ : ClassId) (h : Hp) (l0 : Nat) {r : Hp} (hM : f_Mo_sortAll h l0 = some r) : Ct l base D cI cZ y_Mo_sortAll b_Mo_sortAll 3 none 1 23 0 0 h [.ref (base + l0)] r none :=
  ct_of (by decide) (Nat.le_of_ble_eq_true rfl) (fun p e s m below meth c ls C hS hl => t_Mo_sortAll C hM _ _ _ hS hl)
theorem d_Mo_merge_0 : decode b_Mo_merge 0 = .ok (.aload_n 0, 1) := by decide +kernel
theorem d_Mo_merge_1 : decode b_Mo_merge 1 = .ok (.invokevirtual 198, 3) := by decide +kernel
theorem d_Mo_merge_4 : decode b_Mo_merge 4 = .ok (.aload_n 0, 1) := by decide +kernel
theorem d_Mo_merge_5 : decode b_Mo_merge 5 = .ok (.iconst 0, 1) := by decide +kernel
theorem d_Mo_merge_6 : decode b_Mo_merge 6 = .ok (.putfield 219, 3) := by decide +kernel
theorem d_Mo_merge_9 : decode b_Mo_merge 9 = .ok (.iconst 0, 1) := by decide +kernel
theorem d_Mo_merge_10 : decode b_Mo_merge 10 = .ok (.istore_n 1, 1) := by decide +kernel
theorem d_Mo_merge_11 : decode b_Mo_merge 11 = .ok (.iload_n 1, 1) := by decide +kernel
theorem d_Mo_merge_12 : decode b_Mo_merge 12 = .ok (.aload_n 0, 1) := by decide +kernel
theorem d_Mo_merge_13 : decode b_Mo_merge 13 = .ok (.getfield 16, 3) := by decide +kernel
theorem d_Mo_merge_16 : decode b_Mo_merge 16 = .ok (.iconst 0, 1) := by decide +kernel
theorem d_Mo_merge_17 : decode b_Mo_merge 17 = .ok (.iaload, 1) := by decide +kernel
theorem d_Mo_merge_18 : decode b_Mo_merge 18 = .ok (.if_icmp .ge 14, 3) := by decide +kernel
theorem d_Mo_merge_21 : decode b_Mo_merge 21 = .ok (.aload_n 0, 1) := by decide +kernel
theorem d_Mo_merge_22 : decode b_Mo_merge 22 = .ok (.iload_n 1, 1) := by decide +kernel
theorem d_Mo_merge_23 : decode b_Mo_merge 23 = .ok (.invokevirtual 259, 3) := by decide +kernel
theorem d_Mo_merge_26 : decode b_Mo_merge 26 = .ok (.iinc 1 1, 3) := by decide +kernel
theorem d_Mo_merge_29 : decode b_Mo_merge 29 = .ok (.goto (-18), 3) := by decide +kernel
theorem d_Mo_merge_32 : decode b_Mo_merge 32 = .ok (.aload_n 0, 1) := by decide +kernel
theorem d_Mo_merge_33 : decode b_Mo_merge 33 = .ok (.invokevirtual 262, 3) := by decide +kernel
theorem d_Mo_merge_36 : decode b_Mo_merge 36 = .ok (.aload_n 0, 1) := by decide +kernel
theorem d_Mo_merge_37 : decode b_Mo_merge 37 = .ok (.invokevirtual 265, 3) := by decide +kernel
theorem d_Mo_merge_40 : decode b_Mo_merge 40 = .ok (.aload_n 0, 1) := by decide +kernel
theorem d_Mo_merge_41 : decode b_Mo_merge 41 = .ok (.invokevirtual 268, 3) := by decide +kernel
theorem d_Mo_merge_44 : decode b_Mo_merge 44 = .ok (.return_, 1) := by decide +kernel
def f_Mo_merge_11 (l0 : Nat) : Nat → Int32 → Hp → Option Hp
  | 0, _, _ => none
  | n + 1, l1, h =>
    (gR h 9 l0 2).bind fun t3 =>
    (gA h false t3 (0 : Int32)).bind fun t4 =>
    if t4 ≤ l1 then (
      (f_Mo_mergeNew h l0).bind fun h5 =>
      (f_Mo_meetAll h5 l0).bind fun h6 =>
      (f_Mo_sortAll h6 l0).bind fun h7 =>
      some h7
    ) else (
      (f_Mo_mergeOld h l0 l1).bind fun h8 =>
      f_Mo_merge_11 l0 n (l1 + (1 : Int32)) h8
    )
set_option maxHeartbeats 4000000 in
set_option maxRecDepth 100000 in
theorem t_Mo_merge_11 {l0 : Nat} {r : Hp} (C : Cx base D cI cZ b_Mo_merge 2 "MovedFoldersModel" "merge" none p s m args meth c)  : ∀ (n : Nat) (l1 : Int32) (h : Hp), f_Mo_merge_11 l0 n l1 h = some r → ∀ (H : Heap) (locs : List Loc) (ls : Array Slot), RS base D cI cZ s H locs h → lv_has ls 2 [(0, .ref (base + l0)), (1, .int l1)] → Wg l base D cI cZ 7 166 0 0 r none p e s m args below meth c H locs 0 0 (F0 m 11 ls []) := by
  have hx := C.1
  have hb := C.2.1
  intro n
  induction n with
  | zero =>
    intro l1 h hM
    rw [f_Mo_merge_11] at hM
    cases hM
  | succ n ih =>
    intro l1 h hM H locs ls hS hl
    rw [f_Mo_merge_11] at hM
    refine lv_iload_n hx hb d_Mo_merge_11 rfl (lv_at hl 1 rfl) ?_
    refine lv_aload_n hx hb d_Mo_merge_12 rfl (lv_at hl 0 rfl) ?_
    obtain ⟨t3, et3, hM⟩ := bS hM
    refine r_getR C hS fl_Mo_16 et3 d_Mo_merge_13 ?_
    refine lv_iconst (v := (0 : Int32)) hx hb d_Mo_merge_16 (by decide) ?_
    obtain ⟨t4, et4, hM⟩ := bS hM
    refine r_iald C hS et4 d_Mo_merge_17 ?_
    refine lv_icmp_ge (tgt := 32) hx hb d_Mo_merge_18 (by decide) (fun c18_1 => ?_) (fun c18_1 => ?_)
    · rw [if_pos c18_1] at hM
      refine lv_aload_n hx hb d_Mo_merge_32 rfl (lv_at hl 0 rfl) ?_
      obtain ⟨h5, eh5, hM⟩ := bS hM
      refine r_callVv C hS cv_Mo_262 (c_Mo_mergeNew l base D cI cZ h l0 eh5) (o_Mo_mergeNew eh5) (rest := []) rfl hl.1 rfl (Nat.le_of_ble_eq_true rfl) ⟨(Nat.le_of_ble_eq_true rfl), (Nat.le_of_ble_eq_true rfl)⟩ ⟨(Nat.le_of_ble_eq_true rfl), (Nat.le_of_ble_eq_true rfl)⟩ d_Mo_merge_33 (fun H locs hS => ?_)
      refine lv_aload_n hx hb d_Mo_merge_36 rfl (lv_at hl 0 rfl) ?_
      obtain ⟨h6, eh6, hM⟩ := bS hM
      refine r_callVv C hS cv_Mo_265 (c_Mo_meetAll l base D cI cZ h5 l0 eh6) (o_Mo_meetAll eh6) (rest := []) rfl hl.1 rfl (Nat.le_of_ble_eq_true rfl) ⟨(Nat.le_of_ble_eq_true rfl), (Nat.le_of_ble_eq_true rfl)⟩ ⟨(Nat.le_of_ble_eq_true rfl), (Nat.le_of_ble_eq_true rfl)⟩ d_Mo_merge_37 (fun H locs hS => ?_)
      refine lv_aload_n hx hb d_Mo_merge_40 rfl (lv_at hl 0 rfl) ?_
      obtain ⟨h7, eh7, hM⟩ := bS hM
      refine r_callVv C hS cv_Mo_268 (c_Mo_sortAll l base D cI cZ h6 l0 eh7) (o_Mo_sortAll eh7) (rest := []) rfl hl.1 rfl (Nat.le_of_ble_eq_true rfl) ⟨(Nat.le_of_ble_eq_true rfl), (Nat.le_of_ble_eq_true rfl)⟩ ⟨(Nat.le_of_ble_eq_true rfl), (Nat.le_of_ble_eq_true rfl)⟩ d_Mo_merge_41 (fun H locs hS => ?_)
      obtain rfl := Option.some.inj hM
      exact r_vret C hS d_Mo_merge_44
    · rw [if_neg c18_1] at hM
      refine lv_aload_n hx hb d_Mo_merge_21 rfl (lv_at hl 0 rfl) ?_
      refine lv_iload_n hx hb d_Mo_merge_22 rfl (lv_at hl 1 rfl) ?_
      obtain ⟨h8, eh8, hM⟩ := bS hM
      refine r_callVv C hS cv_Mo_259 (c_Mo_mergeOld l base D cI cZ h l0 l1 eh8) (o_Mo_mergeOld eh8) (rest := []) rfl hl.1 rfl (Nat.le_of_ble_eq_true rfl) ⟨(Nat.le_of_ble_eq_true rfl), (Nat.le_of_ble_eq_true rfl)⟩ ⟨(Nat.le_of_ble_eq_true rfl), (Nat.le_of_ble_eq_true rfl)⟩ d_Mo_merge_23 (fun H locs hS => ?_)
      refine lv_iinc (v := (l1 + (1 : Int32))) (lv' := [(1, .int (l1 + (1 : Int32))), (0, .ref (base + l0))]) hx hb d_Mo_merge_26 hl (k := 1) rfl (by rw [oi_1]) (by decide) rfl (fun ls hl => ?_)
      refine lv_goto (tgt := 11) hx hb d_Mo_merge_29 (by decide) ?_
      exact ih (l1 + (1 : Int32)) h8 hM _ _ _ hS (lv_sub hl [1, 0] rfl)
def f_Mo_merge (h : Hp) (l0 : Nat) : Option Hp :=
  ck h 9 l0 (
    (f_Mo_findBoth h l0).bind fun h1 =>
    (sI h1 9 l0 20 (0 : Int32)).bind fun h2 =>
    f_Mo_merge_11 l0 FU (0 : Int32) h2
  )
theorem o_Mo_merge {h : Hp} {l0 : Nat} {r : Hp} (hM : f_Mo_merge h l0 = some r) : isO h 9 l0 = true := by
  unfold f_Mo_merge at hM
  exact (ck_some hM).1
set_option maxHeartbeats 4000000 in
set_option maxRecDepth 100000 in
theorem t_Mo_merge {h : Hp} {l0 : Nat} {r : Hp} (C : Cx base D cI cZ b_Mo_merge 2 "MovedFoldersModel" "merge" none p s m args meth c) (hM : f_Mo_merge h l0 = some r) (H : Heap) (locs : List Loc) (ls : Array Slot) (hS : RS base D cI cZ s H locs h) (hl : lv_has ls 2 [(0, .ref (base + l0))]) : Wg l base D cI cZ 7 166 0 0 r none p e s m args below meth c H locs 0 0 (F0 m 0 ls []) := by
  have hx := C.1
  have hb := C.2.1
  unfold f_Mo_merge at hM
  replace hM := (ck_some hM).2
  refine lv_aload_n hx hb d_Mo_merge_0 rfl (lv_at hl 0 rfl) ?_
  obtain ⟨h1, eh1, hM⟩ := bS hM
  refine r_callVv C hS cv_Mo_198 (c_Mo_findBoth l base D cI cZ h l0 eh1) (o_Mo_findBoth eh1) (rest := []) rfl hl.1 rfl (Nat.le_of_ble_eq_true rfl) ⟨(Nat.le_of_ble_eq_true rfl), (Nat.le_of_ble_eq_true rfl)⟩ ⟨(Nat.le_of_ble_eq_true rfl), (Nat.le_of_ble_eq_true rfl)⟩ d_Mo_merge_1 (fun H locs hS => ?_)
  refine lv_aload_n hx hb d_Mo_merge_4 rfl (lv_at hl 0 rfl) ?_
  refine lv_iconst (v := (0 : Int32)) hx hb d_Mo_merge_5 (by decide) ?_
  obtain ⟨h2, eh2, hM⟩ := bS hM
  refine r_putI C hS fp_Mo_219 eh2 d_Mo_merge_6 (fun H locs hS => ?_)
  refine lv_iconst (v := (0 : Int32)) hx hb d_Mo_merge_9 (by decide) ?_
  refine lv_istore_n (lv' := [(1, .int (0 : Int32)), (0, .ref (base + l0))]) hx hb d_Mo_merge_10 rfl hl (by decide) rfl (fun ls hl => ?_)
  exact t_Mo_merge_11  C  FU (0 : Int32) h2 hM _ _ _ hS (lv_sub hl [1, 0] rfl)
theorem c_Mo_merge (l : Launch) (base : Nat) (D : va_G) (cI cZ : ClassId) (h : Hp) (l0 : Nat) {r : Hp} (hM : f_Mo_merge h l0 = some r) : Ct l base D cI cZ y_Mo_merge b_Mo_merge 2 none 7 166 0 0 h [.ref (base + l0)] r none :=
  ct_of (by decide) (Nat.le_of_ble_eq_true rfl) (fun p e s m below meth c ls C hS hl => t_Mo_merge C hM _ _ _ hS hl)
theorem d_Mo_entry_0 : decode b_Mo_entry 0 = .ok (.iload_n 2, 1) := by decide +kernel
theorem d_Mo_entry_1 : decode b_Mo_entry 1 = .ok (.i2l, 1) := by decide +kernel
theorem d_Mo_entry_2 : decode b_Mo_entry 2 = .ok (.lconst 0, 1) := by decide +kernel
theorem d_Mo_entry_3 : decode b_Mo_entry 3 = .ok (.ldc2_w 271, 3) := by decide +kernel
theorem d_Mo_entry_6 : decode b_Mo_entry 6 = .ok (.invokestatic 65, 3) := by decide +kernel
theorem d_Mo_entry_9 : decode b_Mo_entry 9 = .ok (.ifCond .eq 12, 3) := by decide +kernel
theorem d_Mo_entry_12 : decode b_Mo_entry 12 = .ok (.iload_n 1, 1) := by decide +kernel
theorem d_Mo_entry_13 : decode b_Mo_entry 13 = .ok (.iconst (-1), 1) := by decide +kernel
theorem d_Mo_entry_14 : decode b_Mo_entry 14 = .ok (.if_icmp .ne 10, 3) := by decide +kernel
theorem d_Mo_entry_17 : decode b_Mo_entry 17 = .ok (.iload_n 2, 1) := by decide +kernel
theorem d_Mo_entry_18 : decode b_Mo_entry 18 = .ok (.ifCond .eq 6, 3) := by decide +kernel
theorem d_Mo_entry_21 : decode b_Mo_entry 21 = .ok (.bipush (-2), 2) := by decide +kernel
theorem d_Mo_entry_23 : decode b_Mo_entry 23 = .ok (.ireturn, 1) := by decide +kernel
theorem d_Mo_entry_24 : decode b_Mo_entry 24 = .ok (.aload_n 0, 1) := by decide +kernel
theorem d_Mo_entry_25 : decode b_Mo_entry 25 = .ok (.invokevirtual 273, 3) := by decide +kernel
theorem d_Mo_entry_28 : decode b_Mo_entry 28 = .ok (.iload_n 1, 1) := by decide +kernel
theorem d_Mo_entry_29 : decode b_Mo_entry 29 = .ok (.i2l, 1) := by decide +kernel
theorem d_Mo_entry_30 : decode b_Mo_entry 30 = .ok (.lconst 0, 1) := by decide +kernel
theorem d_Mo_entry_31 : decode b_Mo_entry 31 = .ok (.aload_n 0, 1) := by decide +kernel
theorem d_Mo_entry_32 : decode b_Mo_entry 32 = .ok (.getfield 219, 3) := by decide +kernel
theorem d_Mo_entry_35 : decode b_Mo_entry 35 = .ok (.iconst 1, 1) := by decide +kernel
theorem d_Mo_entry_36 : decode b_Mo_entry 36 = .ok (.isub, 1) := by decide +kernel
theorem d_Mo_entry_37 : decode b_Mo_entry 37 = .ok (.i2l, 1) := by decide +kernel
theorem d_Mo_entry_38 : decode b_Mo_entry 38 = .ok (.invokestatic 65, 3) := by decide +kernel
theorem d_Mo_entry_41 : decode b_Mo_entry 41 = .ok (.ifCond .ne 18, 3) := by decide +kernel
theorem d_Mo_entry_44 : decode b_Mo_entry 44 = .ok (.iload_n 1, 1) := by decide +kernel
theorem d_Mo_entry_45 : decode b_Mo_entry 45 = .ok (.iconst (-1), 1) := by decide +kernel
theorem d_Mo_entry_46 : decode b_Mo_entry 46 = .ok (.if_icmp .ne 10, 3) := by decide +kernel
theorem d_Mo_entry_49 : decode b_Mo_entry 49 = .ok (.aload_n 0, 1) := by decide +kernel
theorem d_Mo_entry_50 : decode b_Mo_entry 50 = .ok (.getfield 219, 3) := by decide +kernel
theorem d_Mo_entry_53 : decode b_Mo_entry 53 = .ok (.goto 5, 3) := by decide +kernel
theorem d_Mo_entry_56 : decode b_Mo_entry 56 = .ok (.bipush (-6), 2) := by decide +kernel
theorem d_Mo_entry_58 : decode b_Mo_entry 58 = .ok (.ireturn, 1) := by decide +kernel
theorem d_Mo_entry_59 : decode b_Mo_entry 59 = .ok (.iload_n 2, 1) := by decide +kernel
theorem d_Mo_entry_60 : decode b_Mo_entry 60 = .ok (.ifCond .ne 12, 3) := by decide +kernel
theorem d_Mo_entry_63 : decode b_Mo_entry 63 = .ok (.aload_n 0, 1) := by decide +kernel
theorem d_Mo_entry_64 : decode b_Mo_entry 64 = .ok (.getfield 42, 3) := by decide +kernel
theorem d_Mo_entry_67 : decode b_Mo_entry 67 = .ok (.iload_n 1, 1) := by decide +kernel
theorem d_Mo_entry_68 : decode b_Mo_entry 68 = .ok (.iaload, 1) := by decide +kernel
theorem d_Mo_entry_69 : decode b_Mo_entry 69 = .ok (.goto 37, 3) := by decide +kernel
theorem d_Mo_entry_72 : decode b_Mo_entry 72 = .ok (.iload_n 2, 1) := by decide +kernel
theorem d_Mo_entry_73 : decode b_Mo_entry 73 = .ok (.iconst 1, 1) := by decide +kernel
theorem d_Mo_entry_74 : decode b_Mo_entry 74 = .ok (.if_icmp .ne 12, 3) := by decide +kernel
theorem d_Mo_entry_77 : decode b_Mo_entry 77 = .ok (.aload_n 0, 1) := by decide +kernel
theorem d_Mo_entry_78 : decode b_Mo_entry 78 = .ok (.getfield 45, 3) := by decide +kernel
theorem d_Mo_entry_81 : decode b_Mo_entry 81 = .ok (.iload_n 1, 1) := by decide +kernel
theorem d_Mo_entry_82 : decode b_Mo_entry 82 = .ok (.iaload, 1) := by decide +kernel
theorem d_Mo_entry_83 : decode b_Mo_entry 83 = .ok (.goto 23, 3) := by decide +kernel
theorem d_Mo_entry_86 : decode b_Mo_entry 86 = .ok (.iload_n 2, 1) := by decide +kernel
theorem d_Mo_entry_87 : decode b_Mo_entry 87 = .ok (.iconst 2, 1) := by decide +kernel
theorem d_Mo_entry_88 : decode b_Mo_entry 88 = .ok (.if_icmp .ne 12, 3) := by decide +kernel
theorem d_Mo_entry_91 : decode b_Mo_entry 91 = .ok (.aload_n 0, 1) := by decide +kernel
theorem d_Mo_entry_92 : decode b_Mo_entry 92 = .ok (.getfield 48, 3) := by decide +kernel
theorem d_Mo_entry_95 : decode b_Mo_entry 95 = .ok (.iload_n 1, 1) := by decide +kernel
theorem d_Mo_entry_96 : decode b_Mo_entry 96 = .ok (.iaload, 1) := by decide +kernel
theorem d_Mo_entry_97 : decode b_Mo_entry 97 = .ok (.goto 9, 3) := by decide +kernel
theorem d_Mo_entry_100 : decode b_Mo_entry 100 = .ok (.aload_n 0, 1) := by decide +kernel
theorem d_Mo_entry_101 : decode b_Mo_entry 101 = .ok (.getfield 51, 3) := by decide +kernel
theorem d_Mo_entry_104 : decode b_Mo_entry 104 = .ok (.iload_n 1, 1) := by decide +kernel
theorem d_Mo_entry_105 : decode b_Mo_entry 105 = .ok (.iaload, 1) := by decide +kernel
theorem d_Mo_entry_106 : decode b_Mo_entry 106 = .ok (.ireturn, 1) := by decide +kernel
def f_Mo_entry_24 (h : Hp) (l0 : Nat) (l1 : Int32) (l2 : Int32) : Option (Int32 × Hp) :=
  (f_Mo_merge h l0).bind fun h2 =>
  (gI h2 9 l0 20).bind fun t3 =>
  (f_Mo_in (l1.toInt64) (0 : Int64) ((t3 - (1 : Int32)).toInt64)).bind fun t4 =>
  if t4 = (0 : Int32) then (
    (
      if l1 = (-1 : Int32) then (
        (gI h2 9 l0 20).bind fun t15 =>
        some t15
      ) else (
        some (-6 : Int32)
      )
    ).bind fun t14 =>
    some (t14, h2)
  ) else (
    (
      if l2 = (0 : Int32) then (
        (gR h2 9 l0 16).bind fun t12 =>
        (gA h2 false t12 l1).bind fun t13 =>
        some t13
      ) else (
        if l2 = (1 : Int32) then (
          (gR h2 9 l0 17).bind fun t10 =>
          (gA h2 false t10 l1).bind fun t11 =>
          some t11
        ) else (
          if l2 = (2 : Int32) then (
            (gR h2 9 l0 18).bind fun t8 =>
            (gA h2 false t8 l1).bind fun t9 =>
            some t9
          ) else (
            (gR h2 9 l0 19).bind fun t6 =>
            (gA h2 false t6 l1).bind fun t7 =>
            some t7
          )
        )
      )
    ).bind fun t5 =>
    some (t5, h2)
  )
set_option maxHeartbeats 4000000 in
set_option maxRecDepth 100000 in
theorem t_Mo_entry_24 {h : Hp} {l0 : Nat} {l1 : Int32} {l2 : Int32} {r : (Int32 × Hp)} (C : Cx base D cI cZ b_Mo_entry 3 "MovedFoldersModel" "entry" (some .int) p s m args meth c)  (hM : f_Mo_entry_24 h l0 l1 l2 = some r) (H : Heap) (locs : List Loc) (ls : Array Slot) (hS : RS base D cI cZ s H locs h) (hl : lv_has ls 3 [(0, .ref (base + l0)), (1, .int l1), (2, .int l2)]) : Wg l base D cI cZ 8 187 0 0 r.2 (some (.int r.1)) p e s m args below meth c H locs 0 0 (F0 m 24 ls []) := by
  have hx := C.1
  have hb := C.2.1
  unfold f_Mo_entry_24 at hM
  refine lv_aload_n hx hb d_Mo_entry_24 rfl (lv_at hl 0 rfl) ?_
  obtain ⟨h2, eh2, hM⟩ := bS hM
  refine r_callVv C hS cv_Mo_273 (c_Mo_merge l base D cI cZ h l0 eh2) (o_Mo_merge eh2) (rest := []) rfl hl.1 rfl (Nat.le_of_ble_eq_true rfl) ⟨(Nat.le_of_ble_eq_true rfl), (Nat.le_of_ble_eq_true rfl)⟩ ⟨(Nat.le_of_ble_eq_true rfl), (Nat.le_of_ble_eq_true rfl)⟩ d_Mo_entry_25 (fun H locs hS => ?_)
  refine lv_iload_n hx hb d_Mo_entry_28 rfl (lv_at hl 1 rfl) ?_
  refine lv_i2l (v := (l1.toInt64)) hx hb d_Mo_entry_29 rfl ?_
  refine lv_lconst (v := (0 : Int64)) hx hb d_Mo_entry_30 (by decide) ?_
  refine lv_aload_n hx hb d_Mo_entry_31 rfl (lv_at hl 0 rfl) ?_
  obtain ⟨t3, et3, hM⟩ := bS hM
  refine r_getI C hS fl_Mo_219 et3 d_Mo_entry_32 ?_
  refine lv_iconst (v := (1 : Int32)) hx hb d_Mo_entry_35 (by decide) ?_
  refine lv_isub hx hb d_Mo_entry_36 ?_
  refine lv_i2l (v := ((t3 - (1 : Int32)).toInt64)) hx hb d_Mo_entry_37 rfl ?_
  obtain ⟨t4, et4, hM⟩ := bS hM
  refine r_callSi (x := t4) C hS cs_Mo_65 (c_Mo_in l base D cI cZ h2 (l1.toInt64) (0 : Int64) ((t3 - (1 : Int32)).toInt64) et4) (rest := []) rfl hl.1 rfl (Nat.le_of_ble_eq_true rfl) ⟨(Nat.le_of_ble_eq_true rfl), (Nat.le_of_ble_eq_true rfl)⟩ ⟨(Nat.le_of_ble_eq_true rfl), (Nat.le_of_ble_eq_true rfl)⟩ d_Mo_entry_38 (fun H locs hS => ?_)
  refine lv_if_ne (tgt := 59) hx hb d_Mo_entry_41 (by decide) (fun c41_3 => ?_) (fun c41_3 => ?_)
  · rw [if_neg c41_3] at hM
    refine lv_iload_n hx hb d_Mo_entry_59 rfl (lv_at hl 2 rfl) ?_
    obtain ⟨t5, et5, hM⟩ := bS hM
    have kJ106_4 : ∀ (H : Heap) (locs : List Loc) (ls : Array Slot), RS base D cI cZ s H locs h2 → lv_has ls 3 [] → Wg l base D cI cZ 8 187 0 0 r.2 (some (.int r.1)) p e s m args below meth c H locs 0 0 (F0 m 106 ls [.int t5]) := by
      intro H locs ls hS hl
      obtain rfl := Option.some.inj hM
      exact r_iret C hS d_Mo_entry_106
    refine lv_if_ne (tgt := 72) hx hb d_Mo_entry_60 (by decide) (fun c60_5 => ?_) (fun c60_5 => ?_)
    · rw [if_neg c60_5] at et5
      refine lv_iload_n hx hb d_Mo_entry_72 rfl (lv_at hl 2 rfl) ?_
      refine lv_iconst (v := (1 : Int32)) hx hb d_Mo_entry_73 (by decide) ?_
      refine lv_icmp_ne (tgt := 86) hx hb d_Mo_entry_74 (by decide) (fun c74_6 => ?_) (fun c74_6 => ?_)
      · rw [if_neg c74_6] at et5
        refine lv_iload_n hx hb d_Mo_entry_86 rfl (lv_at hl 2 rfl) ?_
        refine lv_iconst (v := (2 : Int32)) hx hb d_Mo_entry_87 (by decide) ?_
        refine lv_icmp_ne (tgt := 100) hx hb d_Mo_entry_88 (by decide) (fun c88_7 => ?_) (fun c88_7 => ?_)
        · rw [if_neg c88_7] at et5
          refine lv_aload_n hx hb d_Mo_entry_100 rfl (lv_at hl 0 rfl) ?_
          obtain ⟨t6, et6, et5⟩ := bS et5
          refine r_getR C hS fl_Mo_51 et6 d_Mo_entry_101 ?_
          refine lv_iload_n hx hb d_Mo_entry_104 rfl (lv_at hl 1 rfl) ?_
          obtain ⟨t7, et7, et5⟩ := bS et5
          refine r_iald C hS et7 d_Mo_entry_105 ?_
          obtain rfl := Option.some.inj et5
          exact kJ106_4 _ _ _ hS (lv_sub hl [] rfl)
        · rw [if_pos c88_7] at et5
          refine lv_aload_n hx hb d_Mo_entry_91 rfl (lv_at hl 0 rfl) ?_
          obtain ⟨t8, et8, et5⟩ := bS et5
          refine r_getR C hS fl_Mo_48 et8 d_Mo_entry_92 ?_
          refine lv_iload_n hx hb d_Mo_entry_95 rfl (lv_at hl 1 rfl) ?_
          obtain ⟨t9, et9, et5⟩ := bS et5
          refine r_iald C hS et9 d_Mo_entry_96 ?_
          refine lv_goto (tgt := 106) hx hb d_Mo_entry_97 (by decide) ?_
          obtain rfl := Option.some.inj et5
          exact kJ106_4 _ _ _ hS (lv_sub hl [] rfl)
      · rw [if_pos c74_6] at et5
        refine lv_aload_n hx hb d_Mo_entry_77 rfl (lv_at hl 0 rfl) ?_
        obtain ⟨t10, et10, et5⟩ := bS et5
        refine r_getR C hS fl_Mo_45 et10 d_Mo_entry_78 ?_
        refine lv_iload_n hx hb d_Mo_entry_81 rfl (lv_at hl 1 rfl) ?_
        obtain ⟨t11, et11, et5⟩ := bS et5
        refine r_iald C hS et11 d_Mo_entry_82 ?_
        refine lv_goto (tgt := 106) hx hb d_Mo_entry_83 (by decide) ?_
        obtain rfl := Option.some.inj et5
        exact kJ106_4 _ _ _ hS (lv_sub hl [] rfl)
    · rw [if_pos c60_5] at et5
      refine lv_aload_n hx hb d_Mo_entry_63 rfl (lv_at hl 0 rfl) ?_
      obtain ⟨t12, et12, et5⟩ := bS et5
      refine r_getR C hS fl_Mo_42 et12 d_Mo_entry_64 ?_
      refine lv_iload_n hx hb d_Mo_entry_67 rfl (lv_at hl 1 rfl) ?_
      obtain ⟨t13, et13, et5⟩ := bS et5
      refine r_iald C hS et13 d_Mo_entry_68 ?_
      refine lv_goto (tgt := 106) hx hb d_Mo_entry_69 (by decide) ?_
      obtain rfl := Option.some.inj et5
      exact kJ106_4 _ _ _ hS (lv_sub hl [] rfl)
  · rw [if_pos c41_3] at hM
    refine lv_iload_n hx hb d_Mo_entry_44 rfl (lv_at hl 1 rfl) ?_
    refine lv_iconst (v := (-1 : Int32)) hx hb d_Mo_entry_45 (by decide) ?_
    obtain ⟨t14, et14, hM⟩ := bS hM
    have kJ58_8 : ∀ (H : Heap) (locs : List Loc) (ls : Array Slot), RS base D cI cZ s H locs h2 → lv_has ls 3 [] → Wg l base D cI cZ 8 187 0 0 r.2 (some (.int r.1)) p e s m args below meth c H locs 0 0 (F0 m 58 ls [.int t14]) := by
      intro H locs ls hS hl
      obtain rfl := Option.some.inj hM
      exact r_iret C hS d_Mo_entry_58
    refine lv_icmp_ne (tgt := 56) hx hb d_Mo_entry_46 (by decide) (fun c46_9 => ?_) (fun c46_9 => ?_)
    · rw [if_neg c46_9] at et14
      refine lv_bipush (v := (-6 : Int32)) hx hb d_Mo_entry_56 (by decide) ?_
      obtain rfl := Option.some.inj et14
      exact kJ58_8 _ _ _ hS (lv_sub hl [] rfl)
    · rw [if_pos c46_9] at et14
      refine lv_aload_n hx hb d_Mo_entry_49 rfl (lv_at hl 0 rfl) ?_
      obtain ⟨t15, et15, et14⟩ := bS et14
      refine r_getI C hS fl_Mo_219 et15 d_Mo_entry_50 ?_
      refine lv_goto (tgt := 58) hx hb d_Mo_entry_53 (by decide) ?_
      obtain rfl := Option.some.inj et14
      exact kJ58_8 _ _ _ hS (lv_sub hl [] rfl)
def f_Mo_entry (h : Hp) (l0 : Nat) (l1 : Int32) (l2 : Int32) : Option (Int32 × Hp) :=
  ck h 9 l0 (
    (f_Mo_in (l2.toInt64) (0 : Int64) (3 : Int64)).bind fun t1 =>
    if t1 = (0 : Int32) then (
      some ((-2 : Int32), h)
    ) else (
      if l1 = (-1 : Int32) then (
        if l2 = (0 : Int32) then (
          f_Mo_entry_24 h l0 l1 l2
        ) else (
          some ((-2 : Int32), h)
        )
      ) else (
        f_Mo_entry_24 h l0 l1 l2
      )
    )
  )
theorem o_Mo_entry {h : Hp} {l0 : Nat} {l1 : Int32} {l2 : Int32} {r : (Int32 × Hp)} (hM : f_Mo_entry h l0 l1 l2 = some r) : isO h 9 l0 = true := by
  unfold f_Mo_entry at hM
  exact (ck_some hM).1
set_option maxHeartbeats 4000000 in
set_option maxRecDepth 100000 in
theorem t_Mo_entry {h : Hp} {l0 : Nat} {l1 : Int32} {l2 : Int32} {r : (Int32 × Hp)} (C : Cx base D cI cZ b_Mo_entry 3 "MovedFoldersModel" "entry" (some .int) p s m args meth c) (hM : f_Mo_entry h l0 l1 l2 = some r) (H : Heap) (locs : List Loc) (ls : Array Slot) (hS : RS base D cI cZ s H locs h) (hl : lv_has ls 3 [(0, .ref (base + l0)), (1, .int l1), (2, .int l2)]) : Wg l base D cI cZ 8 187 0 0 r.2 (some (.int r.1)) p e s m args below meth c H locs 0 0 (F0 m 0 ls []) := by
  have hx := C.1
  have hb := C.2.1
  unfold f_Mo_entry at hM
  replace hM := (ck_some hM).2
  refine lv_iload_n hx hb d_Mo_entry_0 rfl (lv_at hl 2 rfl) ?_
  refine lv_i2l (v := (l2.toInt64)) hx hb d_Mo_entry_1 rfl ?_
  refine lv_lconst (v := (0 : Int64)) hx hb d_Mo_entry_2 (by decide) ?_
  refine lv_ldc2 (v := (3 : Int64)) hx hb C.2.2.2.1 (C.2.2.2.2.1 _ kl_Mo_271) d_Mo_entry_3 ?_
  obtain ⟨t1, et1, hM⟩ := bS hM
  refine r_callSi (x := t1) C hS cs_Mo_65 (c_Mo_in l base D cI cZ h (l2.toInt64) (0 : Int64) (3 : Int64) et1) (rest := []) rfl hl.1 rfl (Nat.le_of_ble_eq_true rfl) ⟨(Nat.le_of_ble_eq_true rfl), (Nat.le_of_ble_eq_true rfl)⟩ ⟨(Nat.le_of_ble_eq_true rfl), (Nat.le_of_ble_eq_true rfl)⟩ d_Mo_entry_6 (fun H locs hS => ?_)
  refine lv_if_eq (tgt := 21) hx hb d_Mo_entry_9 (by decide) (fun c9_1 => ?_) (fun c9_1 => ?_)
  · rw [if_pos c9_1] at hM
    refine lv_bipush (v := (-2 : Int32)) hx hb d_Mo_entry_21 (by decide) ?_
    obtain rfl := Option.some.inj hM
    exact r_iret C hS d_Mo_entry_23
  · rw [if_neg c9_1] at hM
    refine lv_iload_n hx hb d_Mo_entry_12 rfl (lv_at hl 1 rfl) ?_
    refine lv_iconst (v := (-1 : Int32)) hx hb d_Mo_entry_13 (by decide) ?_
    refine lv_icmp_ne (tgt := 24) hx hb d_Mo_entry_14 (by decide) (fun c14_2 => ?_) (fun c14_2 => ?_)
    · rw [if_neg c14_2] at hM
      exact t_Mo_entry_24  C  hM _ _ _ hS (lv_sub hl [0, 1, 2] rfl)
    · rw [if_pos c14_2] at hM
      refine lv_iload_n hx hb d_Mo_entry_17 rfl (lv_at hl 2 rfl) ?_
      refine lv_if_eq (tgt := 24) hx hb d_Mo_entry_18 (by decide) (fun c18_10 => ?_) (fun c18_10 => ?_)
      · rw [if_pos c18_10] at hM
        exact t_Mo_entry_24  C  hM _ _ _ hS (lv_sub hl [0, 1, 2] rfl)
      · rw [if_neg c18_10] at hM
        refine lv_bipush (v := (-2 : Int32)) hx hb d_Mo_entry_21 (by decide) ?_
        obtain rfl := Option.some.inj hM
        exact r_iret C hS d_Mo_entry_23
theorem c_Mo_entry (l : Launch) (base : Nat) (D : va_G) (cI cZ : ClassId) (h : Hp) (l0 : Nat) (l1 : Int32) (l2 : Int32) {r : (Int32 × Hp)} (hM : f_Mo_entry h l0 l1 l2 = some r) : Ct l base D cI cZ y_Mo_entry b_Mo_entry 3 (some .int) 8 187 0 0 h [.ref (base + l0), .int l1, .int l2] r.2 (some (.int r.1)) :=
  ct_of (by decide) (Nat.le_of_ble_eq_true rfl) (fun p e s m below meth c ls C hS hl => t_Mo_entry C hM _ _ _ hS hl)
theorem d_Mo_causesAt_0 : decode b_Mo_causesAt 0 = .ok (.iconst 0, 1) := by decide +kernel
theorem d_Mo_causesAt_1 : decode b_Mo_causesAt 1 = .ok (.istore_n 2, 1) := by decide +kernel
theorem d_Mo_causesAt_2 : decode b_Mo_causesAt 2 = .ok (.iconst 0, 1) := by decide +kernel
theorem d_Mo_causesAt_3 : decode b_Mo_causesAt 3 = .ok (.istore_n 3, 1) := by decide +kernel
theorem d_Mo_causesAt_4 : decode b_Mo_causesAt 4 = .ok (.iload_n 3, 1) := by decide +kernel
theorem d_Mo_causesAt_5 : decode b_Mo_causesAt 5 = .ok (.aload_n 0, 1) := by decide +kernel
theorem d_Mo_causesAt_6 : decode b_Mo_causesAt 6 = .ok (.getfield 219, 3) := by decide +kernel
theorem d_Mo_causesAt_9 : decode b_Mo_causesAt 9 = .ok (.if_icmp .ge 32, 3) := by decide +kernel
theorem d_Mo_causesAt_12 : decode b_Mo_causesAt 12 = .ok (.iload_n 2, 1) := by decide +kernel
theorem d_Mo_causesAt_13 : decode b_Mo_causesAt 13 = .ok (.aload_n 0, 1) := by decide +kernel
theorem d_Mo_causesAt_14 : decode b_Mo_causesAt 14 = .ok (.getfield 42, 3) := by decide +kernel
theorem d_Mo_causesAt_17 : decode b_Mo_causesAt 17 = .ok (.iload_n 3, 1) := by decide +kernel
theorem d_Mo_causesAt_18 : decode b_Mo_causesAt 18 = .ok (.iaload, 1) := by decide +kernel
theorem d_Mo_causesAt_19 : decode b_Mo_causesAt 19 = .ok (.iload_n 1, 1) := by decide +kernel
theorem d_Mo_causesAt_20 : decode b_Mo_causesAt 20 = .ok (.if_icmp .ne 12, 3) := by decide +kernel
theorem d_Mo_causesAt_23 : decode b_Mo_causesAt 23 = .ok (.aload_n 0, 1) := by decide +kernel
theorem d_Mo_causesAt_24 : decode b_Mo_causesAt 24 = .ok (.getfield 48, 3) := by decide +kernel
theorem d_Mo_causesAt_27 : decode b_Mo_causesAt 27 = .ok (.iload_n 3, 1) := by decide +kernel
theorem d_Mo_causesAt_28 : decode b_Mo_causesAt 28 = .ok (.iaload, 1) := by decide +kernel
theorem d_Mo_causesAt_29 : decode b_Mo_causesAt 29 = .ok (.goto 4, 3) := by decide +kernel
theorem d_Mo_causesAt_32 : decode b_Mo_causesAt 32 = .ok (.iconst 0, 1) := by decide +kernel
theorem d_Mo_causesAt_33 : decode b_Mo_causesAt 33 = .ok (.ior, 1) := by decide +kernel
theorem d_Mo_causesAt_34 : decode b_Mo_causesAt 34 = .ok (.istore_n 2, 1) := by decide +kernel
theorem d_Mo_causesAt_35 : decode b_Mo_causesAt 35 = .ok (.iinc 3 1, 3) := by decide +kernel
theorem d_Mo_causesAt_38 : decode b_Mo_causesAt 38 = .ok (.goto (-34), 3) := by decide +kernel
theorem d_Mo_causesAt_41 : decode b_Mo_causesAt 41 = .ok (.iload_n 2, 1) := by decide +kernel
theorem d_Mo_causesAt_42 : decode b_Mo_causesAt 42 = .ok (.ireturn, 1) := by decide +kernel
def f_Mo_causesAt_4 (h : Hp) (l0 : Nat) (l1 : Int32) : Nat → Int32 → Int32 → Option Int32
  | 0, _, _ => none
  | n + 1, l2, l3 =>
    (gI h 9 l0 20).bind fun t1 =>
    if t1 ≤ l3 then (
      some l2
    ) else (
      (gR h 9 l0 16).bind fun t2 =>
      (gA h false t2 l3).bind fun t3 =>
      (
        if t3 = l1 then (
          (gR h 9 l0 18).bind fun t5 =>
          (gA h false t5 l3).bind fun t6 =>
          some t6
        ) else (
          some (0 : Int32)
        )
      ).bind fun t4 =>
      f_Mo_causesAt_4 h l0 l1 n (l2 ||| t4) (l3 + (1 : Int32))
    )
set_option maxHeartbeats 4000000 in
set_option maxRecDepth 100000 in
theorem t_Mo_causesAt_4 {h : Hp} {l0 : Nat} {l1 : Int32} {r : Int32} (C : Cx base D cI cZ b_Mo_causesAt 4 "MovedFoldersModel" "causesAt" (some .int) p s m args meth c)  : ∀ (n : Nat) (l2 : Int32) (l3 : Int32), f_Mo_causesAt_4 h l0 l1 n l2 l3 = some r → ∀ (H : Heap) (locs : List Loc) (ls : Array Slot), RS base D cI cZ s H locs h → lv_has ls 4 [(0, .ref (base + l0)), (1, .int l1), (2, .int l2), (3, .int l3)] → Wg l base D cI cZ 0 0 0 0 h (some (.int r)) p e s m args below meth c H locs 0 0 (F0 m 4 ls []) := by
  have hx := C.1
  have hb := C.2.1
  intro n
  induction n with
  | zero =>
    intro l2 l3 hM
    rw [f_Mo_causesAt_4] at hM
    cases hM
  | succ n ih =>
    intro l2 l3 hM H locs ls hS hl
    rw [f_Mo_causesAt_4] at hM
    refine lv_iload_n hx hb d_Mo_causesAt_4 rfl (lv_at hl 3 rfl) ?_
    refine lv_aload_n hx hb d_Mo_causesAt_5 rfl (lv_at hl 0 rfl) ?_
    obtain ⟨t1, et1, hM⟩ := bS hM
    refine r_getI C hS fl_Mo_219 et1 d_Mo_causesAt_6 ?_
    refine lv_icmp_ge (tgt := 41) hx hb d_Mo_causesAt_9 (by decide) (fun c9_1 => ?_) (fun c9_1 => ?_)
    · rw [if_pos c9_1] at hM
      refine lv_iload_n hx hb d_Mo_causesAt_41 rfl (lv_at hl 2 rfl) ?_
      obtain rfl := Option.some.inj hM
      exact r_iret C hS d_Mo_causesAt_42
    · rw [if_neg c9_1] at hM
      refine lv_iload_n hx hb d_Mo_causesAt_12 rfl (lv_at hl 2 rfl) ?_
      refine lv_aload_n hx hb d_Mo_causesAt_13 rfl (lv_at hl 0 rfl) ?_
      obtain ⟨t2, et2, hM⟩ := bS hM
      refine r_getR C hS fl_Mo_42 et2 d_Mo_causesAt_14 ?_
      refine lv_iload_n hx hb d_Mo_causesAt_17 rfl (lv_at hl 3 rfl) ?_
      obtain ⟨t3, et3, hM⟩ := bS hM
      refine r_iald C hS et3 d_Mo_causesAt_18 ?_
      refine lv_iload_n hx hb d_Mo_causesAt_19 rfl (lv_at hl 1 rfl) ?_
      obtain ⟨t4, et4, hM⟩ := bS hM
      have kJ33_2 : ∀ (H : Heap) (locs : List Loc) (ls : Array Slot), RS base D cI cZ s H locs h → lv_has ls 4 [(0, .ref (base + l0)), (1, .int l1), (3, .int l3)] → Wg l base D cI cZ 0 0 0 0 h (some (.int r)) p e s m args below meth c H locs 0 0 (F0 m 33 ls [.int t4, .int l2]) := by
        intro H locs ls hS hl
        refine lv_ior hx hb d_Mo_causesAt_33 ?_
        refine lv_istore_n (lv' := [(2, .int (l2 ||| t4)), (0, .ref (base + l0)), (1, .int l1), (3, .int l3)]) hx hb d_Mo_causesAt_34 rfl hl (by decide) rfl (fun ls hl => ?_)
        refine lv_iinc (v := (l3 + (1 : Int32))) (lv' := [(3, .int (l3 + (1 : Int32))), (2, .int (l2 ||| t4)), (0, .ref (base + l0)), (1, .int l1)]) hx hb d_Mo_causesAt_35 hl (k := 3) rfl (by rw [oi_1]) (by decide) rfl (fun ls hl => ?_)
        refine lv_goto (tgt := 4) hx hb d_Mo_causesAt_38 (by decide) ?_
        exact ih (l2 ||| t4) (l3 + (1 : Int32)) hM _ _ _ hS (lv_sub hl [2, 3, 1, 0] rfl)
      refine lv_icmp_ne (tgt := 32) hx hb d_Mo_causesAt_20 (by decide) (fun c20_3 => ?_) (fun c20_3 => ?_)
      · rw [if_neg c20_3] at et4
        refine lv_iconst (v := (0 : Int32)) hx hb d_Mo_causesAt_32 (by decide) ?_
        obtain rfl := Option.some.inj et4
        exact kJ33_2 _ _ _ hS (lv_sub hl [0, 1, 3] rfl)
      · rw [if_pos c20_3] at et4
        refine lv_aload_n hx hb d_Mo_causesAt_23 rfl (lv_at hl 0 rfl) ?_
        obtain ⟨t5, et5, et4⟩ := bS et4
        refine r_getR C hS fl_Mo_48 et5 d_Mo_causesAt_24 ?_
        refine lv_iload_n hx hb d_Mo_causesAt_27 rfl (lv_at hl 3 rfl) ?_
        obtain ⟨t6, et6, et4⟩ := bS et4
        refine r_iald C hS et6 d_Mo_causesAt_28 ?_
        refine lv_goto (tgt := 33) hx hb d_Mo_causesAt_29 (by decide) ?_
        obtain rfl := Option.some.inj et4
        exact kJ33_2 _ _ _ hS (lv_sub hl [0, 1, 3] rfl)
def f_Mo_causesAt (h : Hp) (l0 : Nat) (l1 : Int32) : Option Int32 :=
  ck h 9 l0 (
    f_Mo_causesAt_4 h l0 l1 FU (0 : Int32) (0 : Int32)
  )
theorem o_Mo_causesAt {h : Hp} {l0 : Nat} {l1 : Int32} {r : Int32} (hM : f_Mo_causesAt h l0 l1 = some r) : isO h 9 l0 = true := by
  unfold f_Mo_causesAt at hM
  exact (ck_some hM).1
set_option maxHeartbeats 4000000 in
set_option maxRecDepth 100000 in
theorem t_Mo_causesAt {h : Hp} {l0 : Nat} {l1 : Int32} {r : Int32} (C : Cx base D cI cZ b_Mo_causesAt 4 "MovedFoldersModel" "causesAt" (some .int) p s m args meth c) (hM : f_Mo_causesAt h l0 l1 = some r) (H : Heap) (locs : List Loc) (ls : Array Slot) (hS : RS base D cI cZ s H locs h) (hl : lv_has ls 4 [(0, .ref (base + l0)), (1, .int l1)]) : Wg l base D cI cZ 0 0 0 0 h (some (.int r)) p e s m args below meth c H locs 0 0 (F0 m 0 ls []) := by
  have hx := C.1
  have hb := C.2.1
  unfold f_Mo_causesAt at hM
  replace hM := (ck_some hM).2
  refine lv_iconst (v := (0 : Int32)) hx hb d_Mo_causesAt_0 (by decide) ?_
  refine lv_istore_n (lv' := [(2, .int (0 : Int32)), (0, .ref (base + l0)), (1, .int l1)]) hx hb d_Mo_causesAt_1 rfl hl (by decide) rfl (fun ls hl => ?_)
  refine lv_iconst (v := (0 : Int32)) hx hb d_Mo_causesAt_2 (by decide) ?_
  refine lv_istore_n (lv' := [(3, .int (0 : Int32)), (2, .int (0 : Int32)), (0, .ref (base + l0)), (1, .int l1)]) hx hb d_Mo_causesAt_3 rfl hl (by decide) rfl (fun ls hl => ?_)
  exact t_Mo_causesAt_4  C  FU (0 : Int32) (0 : Int32) hM _ _ _ hS (lv_sub hl [2, 3, 1, 0] rfl)
theorem c_Mo_causesAt (l : Launch) (base : Nat) (D : va_G) (cI cZ : ClassId) (h : Hp) (l0 : Nat) (l1 : Int32) {r : Int32} (hM : f_Mo_causesAt h l0 l1 = some r) : Ct l base D cI cZ y_Mo_causesAt b_Mo_causesAt 4 (some .int) 0 0 0 0 h [.ref (base + l0), .int l1] h (some (.int r)) :=
  ct_of (by decide) (Nat.le_of_ble_eq_true rfl) (fun p e s m below meth c ls C hS hl => t_Mo_causesAt C hM _ _ _ hS hl)
theorem d_Mo_clash_0 : decode b_Mo_clash 0 = .ok (.iload_n 2, 1) := by decide +kernel
theorem d_Mo_clash_1 : decode b_Mo_clash 1 = .ok (.i2l, 1) := by decide +kernel
theorem d_Mo_clash_2 : decode b_Mo_clash 2 = .ok (.lconst 0, 1) := by decide +kernel
theorem d_Mo_clash_3 : decode b_Mo_clash 3 = .ok (.lconst 1, 1) := by decide +kernel
theorem d_Mo_clash_4 : decode b_Mo_clash 4 = .ok (.invokestatic 65, 3) := by decide +kernel
theorem d_Mo_clash_7 : decode b_Mo_clash 7 = .ok (.ifCond .eq 12, 3) := by decide +kernel
theorem d_Mo_clash_10 : decode b_Mo_clash 10 = .ok (.iload_n 1, 1) := by decide +kernel
theorem d_Mo_clash_11 : decode b_Mo_clash 11 = .ok (.iconst (-1), 1) := by decide +kernel
theorem d_Mo_clash_12 : decode b_Mo_clash 12 = .ok (.if_icmp .ne 10, 3) := by decide +kernel
theorem d_Mo_clash_15 : decode b_Mo_clash 15 = .ok (.iload_n 2, 1) := by decide +kernel
theorem d_Mo_clash_16 : decode b_Mo_clash 16 = .ok (.ifCond .eq 6, 3) := by decide +kernel
theorem d_Mo_clash_19 : decode b_Mo_clash 19 = .ok (.bipush (-2), 2) := by decide +kernel
theorem d_Mo_clash_21 : decode b_Mo_clash 21 = .ok (.ireturn, 1) := by decide +kernel
theorem d_Mo_clash_22 : decode b_Mo_clash 22 = .ok (.aload_n 0, 1) := by decide +kernel
theorem d_Mo_clash_23 : decode b_Mo_clash 23 = .ok (.invokevirtual 273, 3) := by decide +kernel
theorem d_Mo_clash_26 : decode b_Mo_clash 26 = .ok (.iconst 0, 1) := by decide +kernel
theorem d_Mo_clash_27 : decode b_Mo_clash 27 = .ok (.istore_n 3, 1) := by decide +kernel
theorem d_Mo_clash_28 : decode b_Mo_clash 28 = .ok (.iconst 0, 1) := by decide +kernel
theorem d_Mo_clash_29 : decode b_Mo_clash 29 = .ok (.istore 4, 2) := by decide +kernel
theorem d_Mo_clash_31 : decode b_Mo_clash 31 = .ok (.iload 4, 2) := by decide +kernel
theorem d_Mo_clash_33 : decode b_Mo_clash 33 = .ok (.aload_n 0, 1) := by decide +kernel
theorem d_Mo_clash_34 : decode b_Mo_clash 34 = .ok (.getfield 219, 3) := by decide +kernel
theorem d_Mo_clash_37 : decode b_Mo_clash 37 = .ok (.if_icmp .ge 93, 3) := by decide +kernel
theorem d_Mo_clash_40 : decode b_Mo_clash 40 = .ok (.iload 4, 2) := by decide +kernel
theorem d_Mo_clash_42 : decode b_Mo_clash 42 = .ok (.ifCond .eq 22, 3) := by decide +kernel
theorem d_Mo_clash_45 : decode b_Mo_clash 45 = .ok (.aload_n 0, 1) := by decide +kernel
theorem d_Mo_clash_46 : decode b_Mo_clash 46 = .ok (.getfield 42, 3) := by decide +kernel
theorem d_Mo_clash_49 : decode b_Mo_clash 49 = .ok (.iload 4, 2) := by decide +kernel
theorem d_Mo_clash_51 : decode b_Mo_clash 51 = .ok (.iaload, 1) := by decide +kernel
theorem d_Mo_clash_52 : decode b_Mo_clash 52 = .ok (.aload_n 0, 1) := by decide +kernel
theorem d_Mo_clash_53 : decode b_Mo_clash 53 = .ok (.getfield 42, 3) := by decide +kernel
theorem d_Mo_clash_56 : decode b_Mo_clash 56 = .ok (.iload 4, 2) := by decide +kernel
theorem d_Mo_clash_58 : decode b_Mo_clash 58 = .ok (.iconst 1, 1) := by decide +kernel
theorem d_Mo_clash_59 : decode b_Mo_clash 59 = .ok (.isub, 1) := by decide +kernel
theorem d_Mo_clash_60 : decode b_Mo_clash 60 = .ok (.iaload, 1) := by decide +kernel
theorem d_Mo_clash_61 : decode b_Mo_clash 61 = .ok (.if_icmp .eq 7, 3) := by decide +kernel
theorem d_Mo_clash_64 : decode b_Mo_clash 64 = .ok (.iconst 1, 1) := by decide +kernel
theorem d_Mo_clash_65 : decode b_Mo_clash 65 = .ok (.goto 4, 3) := by decide +kernel
theorem d_Mo_clash_68 : decode b_Mo_clash 68 = .ok (.iconst 0, 1) := by decide +kernel
theorem d_Mo_clash_69 : decode b_Mo_clash 69 = .ok (.istore 5, 2) := by decide +kernel
theorem d_Mo_clash_71 : decode b_Mo_clash 71 = .ok (.iload 5, 2) := by decide +kernel
theorem d_Mo_clash_73 : decode b_Mo_clash 73 = .ok (.ifCond .eq 51, 3) := by decide +kernel
theorem d_Mo_clash_76 : decode b_Mo_clash 76 = .ok (.aload_n 0, 1) := by decide +kernel
theorem d_Mo_clash_77 : decode b_Mo_clash 77 = .ok (.aload_n 0, 1) := by decide +kernel
theorem d_Mo_clash_78 : decode b_Mo_clash 78 = .ok (.getfield 42, 3) := by decide +kernel
theorem d_Mo_clash_81 : decode b_Mo_clash 81 = .ok (.iload 4, 2) := by decide +kernel
theorem d_Mo_clash_83 : decode b_Mo_clash 83 = .ok (.iaload, 1) := by decide +kernel
theorem d_Mo_clash_84 : decode b_Mo_clash 84 = .ok (.invokevirtual 276, 3) := by decide +kernel
theorem d_Mo_clash_87 : decode b_Mo_clash 87 = .ok (.ifCond .eq 37, 3) := by decide +kernel
theorem d_Mo_clash_90 : decode b_Mo_clash 90 = .ok (.iload_n 3, 1) := by decide +kernel
theorem d_Mo_clash_91 : decode b_Mo_clash 91 = .ok (.iload_n 1, 1) := by decide +kernel
theorem d_Mo_clash_92 : decode b_Mo_clash 92 = .ok (.if_icmp .ne 29, 3) := by decide +kernel
theorem d_Mo_clash_95 : decode b_Mo_clash 95 = .ok (.iload_n 2, 1) := by decide +kernel
theorem d_Mo_clash_96 : decode b_Mo_clash 96 = .ok (.ifCond .ne 13, 3) := by decide +kernel
theorem d_Mo_clash_99 : decode b_Mo_clash 99 = .ok (.aload_n 0, 1) := by decide +kernel
theorem d_Mo_clash_100 : decode b_Mo_clash 100 = .ok (.getfield 42, 3) := by decide +kernel
theorem d_Mo_clash_103 : decode b_Mo_clash 103 = .ok (.iload 4, 2) := by decide +kernel
theorem d_Mo_clash_105 : decode b_Mo_clash 105 = .ok (.iaload, 1) := by decide +kernel
theorem d_Mo_clash_106 : decode b_Mo_clash 106 = .ok (.goto 14, 3) := by decide +kernel
theorem d_Mo_clash_109 : decode b_Mo_clash 109 = .ok (.aload_n 0, 1) := by decide +kernel
theorem d_Mo_clash_110 : decode b_Mo_clash 110 = .ok (.aload_n 0, 1) := by decide +kernel
theorem d_Mo_clash_111 : decode b_Mo_clash 111 = .ok (.getfield 42, 3) := by decide +kernel
theorem d_Mo_clash_114 : decode b_Mo_clash 114 = .ok (.iload 4, 2) := by decide +kernel
theorem d_Mo_clash_116 : decode b_Mo_clash 116 = .ok (.iaload, 1) := by decide +kernel
theorem d_Mo_clash_117 : decode b_Mo_clash 117 = .ok (.invokevirtual 276, 3) := by decide +kernel
theorem d_Mo_clash_120 : decode b_Mo_clash 120 = .ok (.ireturn, 1) := by decide +kernel
theorem d_Mo_clash_121 : decode b_Mo_clash 121 = .ok (.iinc 3 1, 3) := by decide +kernel
theorem d_Mo_clash_124 : decode b_Mo_clash 124 = .ok (.iinc 4 1, 3) := by decide +kernel
theorem d_Mo_clash_127 : decode b_Mo_clash 127 = .ok (.goto (-96), 3) := by decide +kernel
theorem d_Mo_clash_130 : decode b_Mo_clash 130 = .ok (.iload_n 1, 1) := by decide +kernel
theorem d_Mo_clash_131 : decode b_Mo_clash 131 = .ok (.iconst (-1), 1) := by decide +kernel
theorem d_Mo_clash_132 : decode b_Mo_clash 132 = .ok (.if_icmp .ne 7, 3) := by decide +kernel
theorem d_Mo_clash_135 : decode b_Mo_clash 135 = .ok (.iload_n 3, 1) := by decide +kernel
theorem d_Mo_clash_136 : decode b_Mo_clash 136 = .ok (.goto 5, 3) := by decide +kernel
theorem d_Mo_clash_139 : decode b_Mo_clash 139 = .ok (.bipush (-6), 2) := by decide +kernel
theorem d_Mo_clash_141 : decode b_Mo_clash 141 = .ok (.ireturn, 1) := by decide +kernel
def f_Mo_clash_31 (h : Hp) (l0 : Nat) (l1 : Int32) (l2 : Int32) : Nat → Int32 → Int32 → Option (Int32 × Hp)
  | 0, _, _ => none
  | n + 1, l3, l4 =>
    (gI h 9 l0 20).bind fun t3 =>
    if t3 ≤ l4 then (
      some ((if l1 = (-1 : Int32) then (l3) else ((-6 : Int32))), h)
    ) else (
      (
        if l4 = (0 : Int32) then (
          some (1 : Int32)
        ) else (
          (gR h 9 l0 16).bind fun t5 =>
          (gA h false t5 l4).bind fun t6 =>
          (gR h 9 l0 16).bind fun t7 =>
          (gA h false t7 (l4 - (1 : Int32))).bind fun t8 =>
          if t6 = t8 then (
            some (0 : Int32)
          ) else (
            some (1 : Int32)
          )
        )
      ).bind fun t4 =>
      if t4 = (0 : Int32) then (
        f_Mo_clash_31 h l0 l1 l2 n l3 (l4 + (1 : Int32))
      ) else (
        (gR h 9 l0 16).bind fun t9 =>
        (gA h false t9 l4).bind fun t10 =>
        (f_Mo_causesAt h l0 t10).bind fun t11 =>
        if t11 = (0 : Int32) then (
          f_Mo_clash_31 h l0 l1 l2 n l3 (l4 + (1 : Int32))
        ) else (
          if l3 = l1 then (
            (
              if l2 = (0 : Int32) then (
                (gR h 9 l0 16).bind fun t16 =>
                (gA h false t16 l4).bind fun t17 =>
                some t17
              ) else (
                (gR h 9 l0 16).bind fun t13 =>
                (gA h false t13 l4).bind fun t14 =>
                (f_Mo_causesAt h l0 t14).bind fun t15 =>
                some t15
              )
            ).bind fun t12 =>
            some (t12, h)
          ) else (
            f_Mo_clash_31 h l0 l1 l2 n (l3 + (1 : Int32)) (l4 + (1 : Int32))
          )
        )
      )
    )
set_option maxHeartbeats 4000000 in
set_option maxRecDepth 100000 in
theorem t_Mo_clash_31 {h : Hp} {l0 : Nat} {l1 : Int32} {l2 : Int32} {r : (Int32 × Hp)} (C : Cx base D cI cZ b_Mo_clash 6 "MovedFoldersModel" "clash" (some .int) p s m args meth c)  : ∀ (n : Nat) (l3 : Int32) (l4 : Int32), f_Mo_clash_31 h l0 l1 l2 n l3 l4 = some r → ∀ (H : Heap) (locs : List Loc) (ls : Array Slot), RS base D cI cZ s H locs h → lv_has ls 6 [(0, .ref (base + l0)), (1, .int l1), (2, .int l2), (3, .int l3), (4, .int l4)] → Wg l base D cI cZ 8 187 0 0 r.2 (some (.int r.1)) p e s m args below meth c H locs 0 0 (F0 m 31 ls []) := by
  have hx := C.1
  have hb := C.2.1
  intro n
  induction n with
  | zero =>
    intro l3 l4 hM
    rw [f_Mo_clash_31] at hM
    cases hM
  | succ n ih =>
    intro l3 l4 hM H locs ls hS hl
    rw [f_Mo_clash_31] at hM
    refine lv_iload hx hb d_Mo_clash_31 (lv_at hl 4 rfl) ?_
    refine lv_aload_n hx hb d_Mo_clash_33 rfl (lv_at hl 0 rfl) ?_
    obtain ⟨t3, et3, hM⟩ := bS hM
    refine r_getI C hS fl_Mo_219 et3 d_Mo_clash_34 ?_
    refine lv_icmp_ge (tgt := 130) hx hb d_Mo_clash_37 (by decide) (fun c37_3 => ?_) (fun c37_3 => ?_)
    · rw [if_pos c37_3] at hM
      refine lv_iload_n hx hb d_Mo_clash_130 rfl (lv_at hl 1 rfl) ?_
      refine lv_iconst (v := (-1 : Int32)) hx hb d_Mo_clash_131 (by decide) ?_
      have kJ141_4 : ∀ (H : Heap) (locs : List Loc) (ls : Array Slot), RS base D cI cZ s H locs h → lv_has ls 6 [] → Wg l base D cI cZ 8 187 0 0 r.2 (some (.int r.1)) p e s m args below meth c H locs 0 0 (F0 m 141 ls [.int (if l1 = (-1 : Int32) then (l3) else ((-6 : Int32)))]) := by
        intro H locs ls hS hl
        obtain rfl := Option.some.inj hM
        exact r_iret C hS d_Mo_clash_141
      refine lv_icmp_ne (tgt := 139) hx hb d_Mo_clash_132 (by decide) (fun c132_5 => ?_) (fun c132_5 => ?_)
      · rw [if_neg c132_5] at kJ141_4
        refine lv_bipush (v := (-6 : Int32)) hx hb d_Mo_clash_139 (by decide) ?_
        exact kJ141_4 _ _ _ hS (lv_sub hl [] rfl)
      · rw [if_pos c132_5] at kJ141_4
        refine lv_iload_n hx hb d_Mo_clash_135 rfl (lv_at hl 3 rfl) ?_
        refine lv_goto (tgt := 141) hx hb d_Mo_clash_136 (by decide) ?_
        exact kJ141_4 _ _ _ hS (lv_sub hl [] rfl)
    · rw [if_neg c37_3] at hM
      refine lv_iload hx hb d_Mo_clash_40 (lv_at hl 4 rfl) ?_
      obtain ⟨t4, et4, hM⟩ := bS hM
      have kJ69_6 : ∀ (H : Heap) (locs : List Loc) (ls : Array Slot), RS base D cI cZ s H locs h → lv_has ls 6 [(0, .ref (base + l0)), (1, .int l1), (2, .int l2), (3, .int l3), (4, .int l4)] → Wg l base D cI cZ 8 187 0 0 r.2 (some (.int r.1)) p e s m args below meth c H locs 0 0 (F0 m 69 ls [.int t4]) := by
        intro H locs ls hS hl
        refine lv_istore (lv' := [(5, .int t4), (0, .ref (base + l0)), (1, .int l1), (2, .int l2), (3, .int l3), (4, .int l4)]) hx hb d_Mo_clash_69 hl (by decide) rfl (fun ls hl => ?_)
        refine lv_iload hx hb d_Mo_clash_71 (lv_at hl 0 rfl) ?_
        refine lv_if_eq (tgt := 124) hx hb d_Mo_clash_73 (by decide) (fun c73_9 => ?_) (fun c73_9 => ?_)
        · rw [if_pos c73_9] at hM
          refine lv_iinc (v := (l4 + (1 : Int32))) (lv' := [(4, .int (l4 + (1 : Int32))), (5, .int t4), (0, .ref (base + l0)), (1, .int l1), (2, .int l2), (3, .int l3)]) hx hb d_Mo_clash_124 hl (k := 5) rfl (by rw [oi_1]) (by decide) rfl (fun ls hl => ?_)
          refine lv_goto (tgt := 31) hx hb d_Mo_clash_127 (by decide) ?_
          exact ih l3 (l4 + (1 : Int32)) hM _ _ _ hS (lv_sub hl [2, 3, 4, 5, 0] rfl)
        · rw [if_neg c73_9] at hM
          refine lv_aload_n hx hb d_Mo_clash_76 rfl (lv_at hl 1 rfl) ?_
          refine lv_aload_n hx hb d_Mo_clash_77 rfl (lv_at hl 1 rfl) ?_
          obtain ⟨t9, et9, hM⟩ := bS hM
          refine r_getR C hS fl_Mo_42 et9 d_Mo_clash_78 ?_
          refine lv_iload hx hb d_Mo_clash_81 (lv_at hl 5 rfl) ?_
          obtain ⟨t10, et10, hM⟩ := bS hM
          refine r_iald C hS et10 d_Mo_clash_83 ?_
          obtain ⟨t11, et11, hM⟩ := bS hM
          refine r_callVi (x := t11) C hS cv_Mo_276 (c_Mo_causesAt l base D cI cZ h l0 t10 et11) (o_Mo_causesAt et11) (rest := []) rfl hl.1 rfl (Nat.le_of_ble_eq_true rfl) ⟨(Nat.le_of_ble_eq_true rfl), (Nat.le_of_ble_eq_true rfl)⟩ ⟨(Nat.le_of_ble_eq_true rfl), (Nat.le_of_ble_eq_true rfl)⟩ d_Mo_clash_84 (fun H locs hS => ?_)
          refine lv_if_eq (tgt := 124) hx hb d_Mo_clash_87 (by decide) (fun c87_10 => ?_) (fun c87_10 => ?_)
          · rw [if_pos c87_10] at hM
            refine lv_iinc (v := (l4 + (1 : Int32))) (lv' := [(4, .int (l4 + (1 : Int32))), (5, .int t4), (0, .ref (base + l0)), (1, .int l1), (2, .int l2), (3, .int l3)]) hx hb d_Mo_clash_124 hl (k := 5) rfl (by rw [oi_1]) (by decide) rfl (fun ls hl => ?_)
            refine lv_goto (tgt := 31) hx hb d_Mo_clash_127 (by decide) ?_
            exact ih l3 (l4 + (1 : Int32)) hM _ _ _ hS (lv_sub hl [2, 3, 4, 5, 0] rfl)
          · rw [if_neg c87_10] at hM
            refine lv_iload_n hx hb d_Mo_clash_90 rfl (lv_at hl 4 rfl) ?_
            refine lv_iload_n hx hb d_Mo_clash_91 rfl (lv_at hl 2 rfl) ?_
            refine lv_icmp_ne (tgt := 121) hx hb d_Mo_clash_92 (by decide) (fun c92_11 => ?_) (fun c92_11 => ?_)
            · rw [if_neg c92_11] at hM
              refine lv_iinc (v := (l3 + (1 : Int32))) (lv' := [(3, .int (l3 + (1 : Int32))), (5, .int t4), (0, .ref (base + l0)), (1, .int l1), (2, .int l2), (4, .int l4)]) hx hb d_Mo_clash_121 hl (k := 4) rfl (by rw [oi_1]) (by decide) rfl (fun ls hl => ?_)
              refine lv_iinc (v := (l4 + (1 : Int32))) (lv' := [(4, .int (l4 + (1 : Int32))), (3, .int (l3 + (1 : Int32))), (5, .int t4), (0, .ref (base + l0)), (1, .int l1), (2, .int l2)]) hx hb d_Mo_clash_124 hl (k := 5) rfl (by rw [oi_1]) (by decide) rfl (fun ls hl => ?_)
              refine lv_goto (tgt := 31) hx hb d_Mo_clash_127 (by decide) ?_
              exact ih (l3 + (1 : Int32)) (l4 + (1 : Int32)) hM _ _ _ hS (lv_sub hl [3, 4, 5, 1, 0] rfl)
            · rw [if_pos c92_11] at hM
              refine lv_iload_n hx hb d_Mo_clash_95 rfl (lv_at hl 3 rfl) ?_
              obtain ⟨t12, et12, hM⟩ := bS hM
              have kJ120_12 : ∀ (H : Heap) (locs : List Loc) (ls : Array Slot), RS base D cI cZ s H locs h → lv_has ls 6 [] → Wg l base D cI cZ 8 187 0 0 r.2 (some (.int r.1)) p e s m args below meth c H locs 0 0 (F0 m 120 ls [.int t12]) := by
                intro H locs ls hS hl
                obtain rfl := Option.some.inj hM
                exact r_iret C hS d_Mo_clash_120
              refine lv_if_ne (tgt := 109) hx hb d_Mo_clash_96 (by decide) (fun c96_13 => ?_) (fun c96_13 => ?_)
              · rw [if_neg c96_13] at et12
                refine lv_aload_n hx hb d_Mo_clash_109 rfl (lv_at hl 1 rfl) ?_
                refine lv_aload_n hx hb d_Mo_clash_110 rfl (lv_at hl 1 rfl) ?_
                obtain ⟨t13, et13, et12⟩ := bS et12
                refine r_getR C hS fl_Mo_42 et13 d_Mo_clash_111 ?_
                refine lv_iload hx hb d_Mo_clash_114 (lv_at hl 5 rfl) ?_
                obtain ⟨t14, et14, et12⟩ := bS et12
                refine r_iald C hS et14 d_Mo_clash_116 ?_
                obtain ⟨t15, et15, et12⟩ := bS et12
                refine r_callVi (x := t15) C hS cv_Mo_276 (c_Mo_causesAt l base D cI cZ h l0 t14 et15) (o_Mo_causesAt et15) (rest := []) rfl hl.1 rfl (Nat.le_of_ble_eq_true rfl) ⟨(Nat.le_of_ble_eq_true rfl), (Nat.le_of_ble_eq_true rfl)⟩ ⟨(Nat.le_of_ble_eq_true rfl), (Nat.le_of_ble_eq_true rfl)⟩ d_Mo_clash_117 (fun H locs hS => ?_)
                obtain rfl := Option.some.inj et12
                exact kJ120_12 _ _ _ hS (lv_sub hl [] rfl)
              · rw [if_pos c96_13] at et12
                refine lv_aload_n hx hb d_Mo_clash_99 rfl (lv_at hl 1 rfl) ?_
                obtain ⟨t16, et16, et12⟩ := bS et12
                refine r_getR C hS fl_Mo_42 et16 d_Mo_clash_100 ?_
                refine lv_iload hx hb d_Mo_clash_103 (lv_at hl 5 rfl) ?_
                obtain ⟨t17, et17, et12⟩ := bS et12
                refine r_iald C hS et17 d_Mo_clash_105 ?_
                refine lv_goto (tgt := 120) hx hb d_Mo_clash_106 (by decide) ?_
                obtain rfl := Option.some.inj et12
                exact kJ120_12 _ _ _ hS (lv_sub hl [] rfl)
      refine lv_if_eq (tgt := 64) hx hb d_Mo_clash_42 (by decide) (fun c42_7 => ?_) (fun c42_7 => ?_)
      · rw [if_pos c42_7] at et4
        refine lv_iconst (v := (1 : Int32)) hx hb d_Mo_clash_64 (by decide) ?_
        refine lv_goto (tgt := 69) hx hb d_Mo_clash_65 (by decide) ?_
        obtain rfl := Option.some.inj et4
        exact kJ69_6 _ _ _ hS (lv_sub hl [0, 1, 2, 3, 4] rfl)
      · rw [if_neg c42_7] at et4
        refine lv_aload_n hx hb d_Mo_clash_45 rfl (lv_at hl 0 rfl) ?_
        obtain ⟨t5, et5, et4⟩ := bS et4
        refine r_getR C hS fl_Mo_42 et5 d_Mo_clash_46 ?_
        refine lv_iload hx hb d_Mo_clash_49 (lv_at hl 4 rfl) ?_
        obtain ⟨t6, et6, et4⟩ := bS et4
        refine r_iald C hS et6 d_Mo_clash_51 ?_
        refine lv_aload_n hx hb d_Mo_clash_52 rfl (lv_at hl 0 rfl) ?_
        obtain ⟨t7, et7, et4⟩ := bS et4
        refine r_getR C hS fl_Mo_42 et7 d_Mo_clash_53 ?_
        refine lv_iload hx hb d_Mo_clash_56 (lv_at hl 4 rfl) ?_
        refine lv_iconst (v := (1 : Int32)) hx hb d_Mo_clash_58 (by decide) ?_
        refine lv_isub hx hb d_Mo_clash_59 ?_
        obtain ⟨t8, et8, et4⟩ := bS et4
        refine r_iald C hS et8 d_Mo_clash_60 ?_
        refine lv_icmp_eq (tgt := 68) hx hb d_Mo_clash_61 (by decide) (fun c61_8 => ?_) (fun c61_8 => ?_)
        · rw [if_pos c61_8] at et4
          refine lv_iconst (v := (0 : Int32)) hx hb d_Mo_clash_68 (by decide) ?_
          obtain rfl := Option.some.inj et4
          exact kJ69_6 _ _ _ hS (lv_sub hl [0, 1, 2, 3, 4] rfl)
        · rw [if_neg c61_8] at et4
          refine lv_iconst (v := (1 : Int32)) hx hb d_Mo_clash_64 (by decide) ?_
          refine lv_goto (tgt := 69) hx hb d_Mo_clash_65 (by decide) ?_
          obtain rfl := Option.some.inj et4
          exact kJ69_6 _ _ _ hS (lv_sub hl [0, 1, 2, 3, 4] rfl)
def f_Mo_clash_22 (h : Hp) (l0 : Nat) (l1 : Int32) (l2 : Int32) : Option (Int32 × Hp) :=
  (f_Mo_merge h l0).bind fun h2 =>
  f_Mo_clash_31 h2 l0 l1 l2 FU (0 : Int32) (0 : Int32)
set_option maxHeartbeats 4000000 in
set_option maxRecDepth 100000 in
theorem t_Mo_clash_22 {h : Hp} {l0 : Nat} {l1 : Int32} {l2 : Int32} {r : (Int32 × Hp)} (C : Cx base D cI cZ b_Mo_clash 6 "MovedFoldersModel" "clash" (some .int) p s m args meth c)  (hM : f_Mo_clash_22 h l0 l1 l2 = some r) (H : Heap) (locs : List Loc) (ls : Array Slot) (hS : RS base D cI cZ s H locs h) (hl : lv_has ls 6 [(0, .ref (base + l0)), (1, .int l1), (2, .int l2)]) : Wg l base D cI cZ 8 187 0 0 r.2 (some (.int r.1)) p e s m args below meth c H locs 0 0 (F0 m 22 ls []) := by
  have hx := C.1
  have hb := C.2.1
  unfold f_Mo_clash_22 at hM
  refine lv_aload_n hx hb d_Mo_clash_22 rfl (lv_at hl 0 rfl) ?_
  obtain ⟨h2, eh2, hM⟩ := bS hM
  refine r_callVv C hS cv_Mo_273 (c_Mo_merge l base D cI cZ h l0 eh2) (o_Mo_merge eh2) (rest := []) rfl hl.1 rfl (Nat.le_of_ble_eq_true rfl) ⟨(Nat.le_of_ble_eq_true rfl), (Nat.le_of_ble_eq_true rfl)⟩ ⟨(Nat.le_of_ble_eq_true rfl), (Nat.le_of_ble_eq_true rfl)⟩ d_Mo_clash_23 (fun H locs hS => ?_)
  refine lv_iconst (v := (0 : Int32)) hx hb d_Mo_clash_26 (by decide) ?_
  refine lv_istore_n (lv' := [(3, .int (0 : Int32)), (0, .ref (base + l0)), (1, .int l1), (2, .int l2)]) hx hb d_Mo_clash_27 rfl hl (by decide) rfl (fun ls hl => ?_)
  refine lv_iconst (v := (0 : Int32)) hx hb d_Mo_clash_28 (by decide) ?_
  refine lv_istore (lv' := [(4, .int (0 : Int32)), (3, .int (0 : Int32)), (0, .ref (base + l0)), (1, .int l1), (2, .int l2)]) hx hb d_Mo_clash_29 hl (by decide) rfl (fun ls hl => ?_)
  exact t_Mo_clash_31  C  FU (0 : Int32) (0 : Int32) hM _ _ _ hS (lv_sub hl [2, 3, 4, 1, 0] rfl)
def f_Mo_clash (h : Hp) (l0 : Nat) (l1 : Int32) (l2 : Int32) : Option (Int32 × Hp) :=
  ck h 9 l0 (
    (f_Mo_in (l2.toInt64) (0 : Int64) (1 : Int64)).bind fun t1 =>
    if t1 = (0 : Int32) then (
      some ((-2 : Int32), h)
    ) else (
      if l1 = (-1 : Int32) then (
        if l2 = (0 : Int32) then (
          f_Mo_clash_22 h l0 l1 l2
        ) else (
          some ((-2 : Int32), h)
        )
      ) else (
        f_Mo_clash_22 h l0 l1 l2
      )
    )
  )
theorem o_Mo_clash {h : Hp} {l0 : Nat} {l1 : Int32} {l2 : Int32} {r : (Int32 × Hp)} (hM : f_Mo_clash h l0 l1 l2 = some r) : isO h 9 l0 = true := by
  unfold f_Mo_clash at hM
  exact (ck_some hM).1
set_option maxHeartbeats 4000000 in
set_option maxRecDepth 100000 in
theorem t_Mo_clash {h : Hp} {l0 : Nat} {l1 : Int32} {l2 : Int32} {r : (Int32 × Hp)} (C : Cx base D cI cZ b_Mo_clash 6 "MovedFoldersModel" "clash" (some .int) p s m args meth c) (hM : f_Mo_clash h l0 l1 l2 = some r) (H : Heap) (locs : List Loc) (ls : Array Slot) (hS : RS base D cI cZ s H locs h) (hl : lv_has ls 6 [(0, .ref (base + l0)), (1, .int l1), (2, .int l2)]) : Wg l base D cI cZ 8 187 0 0 r.2 (some (.int r.1)) p e s m args below meth c H locs 0 0 (F0 m 0 ls []) := by
  have hx := C.1
  have hb := C.2.1
  unfold f_Mo_clash at hM
  replace hM := (ck_some hM).2
  refine lv_iload_n hx hb d_Mo_clash_0 rfl (lv_at hl 2 rfl) ?_
  refine lv_i2l (v := (l2.toInt64)) hx hb d_Mo_clash_1 rfl ?_
  refine lv_lconst (v := (0 : Int64)) hx hb d_Mo_clash_2 (by decide) ?_
  refine lv_lconst (v := (1 : Int64)) hx hb d_Mo_clash_3 (by decide) ?_
  obtain ⟨t1, et1, hM⟩ := bS hM
  refine r_callSi (x := t1) C hS cs_Mo_65 (c_Mo_in l base D cI cZ h (l2.toInt64) (0 : Int64) (1 : Int64) et1) (rest := []) rfl hl.1 rfl (Nat.le_of_ble_eq_true rfl) ⟨(Nat.le_of_ble_eq_true rfl), (Nat.le_of_ble_eq_true rfl)⟩ ⟨(Nat.le_of_ble_eq_true rfl), (Nat.le_of_ble_eq_true rfl)⟩ d_Mo_clash_4 (fun H locs hS => ?_)
  refine lv_if_eq (tgt := 19) hx hb d_Mo_clash_7 (by decide) (fun c7_1 => ?_) (fun c7_1 => ?_)
  · rw [if_pos c7_1] at hM
    refine lv_bipush (v := (-2 : Int32)) hx hb d_Mo_clash_19 (by decide) ?_
    obtain rfl := Option.some.inj hM
    exact r_iret C hS d_Mo_clash_21
  · rw [if_neg c7_1] at hM
    refine lv_iload_n hx hb d_Mo_clash_10 rfl (lv_at hl 1 rfl) ?_
    refine lv_iconst (v := (-1 : Int32)) hx hb d_Mo_clash_11 (by decide) ?_
    refine lv_icmp_ne (tgt := 22) hx hb d_Mo_clash_12 (by decide) (fun c12_2 => ?_) (fun c12_2 => ?_)
    · rw [if_neg c12_2] at hM
      exact t_Mo_clash_22  C  hM _ _ _ hS (lv_sub hl [0, 1, 2] rfl)
    · rw [if_pos c12_2] at hM
      refine lv_iload_n hx hb d_Mo_clash_15 rfl (lv_at hl 2 rfl) ?_
      refine lv_if_eq (tgt := 22) hx hb d_Mo_clash_16 (by decide) (fun c16_14 => ?_) (fun c16_14 => ?_)
      · rw [if_pos c16_14] at hM
        exact t_Mo_clash_22  C  hM _ _ _ hS (lv_sub hl [0, 1, 2] rfl)
      · rw [if_neg c16_14] at hM
        refine lv_bipush (v := (-2 : Int32)) hx hb d_Mo_clash_19 (by decide) ?_
        obtain rfl := Option.some.inj hM
        exact r_iret C hS d_Mo_clash_21
theorem c_Mo_clash (l : Launch) (base : Nat) (D : va_G) (cI cZ : ClassId) (h : Hp) (l0 : Nat) (l1 : Int32) (l2 : Int32) {r : (Int32 × Hp)} (hM : f_Mo_clash h l0 l1 l2 = some r) : Ct l base D cI cZ y_Mo_clash b_Mo_clash 6 (some .int) 8 187 0 0 h [.ref (base + l0), .int l1, .int l2] r.2 (some (.int r.1)) :=
  ct_of (by decide) (Nat.le_of_ble_eq_true rfl) (fun p e s m below meth c ls C hS hl => t_Mo_clash C hM _ _ _ hS hl)
theorem d_Mo_settle_0 : decode b_Mo_settle 0 = .ok (.aload_n 0, 1) := by decide +kernel
theorem d_Mo_settle_1 : decode b_Mo_settle 1 = .ok (.iconst (-1), 1) := by decide +kernel
theorem d_Mo_settle_2 : decode b_Mo_settle 2 = .ok (.iconst 0, 1) := by decide +kernel
theorem d_Mo_settle_3 : decode b_Mo_settle 3 = .ok (.invokevirtual 279, 3) := by decide +kernel
theorem d_Mo_settle_6 : decode b_Mo_settle 6 = .ok (.ifCond .le 6, 3) := by decide +kernel
theorem d_Mo_settle_9 : decode b_Mo_settle 9 = .ok (.bipush (-5), 2) := by decide +kernel
theorem d_Mo_settle_11 : decode b_Mo_settle 11 = .ok (.ireturn, 1) := by decide +kernel
theorem d_Mo_settle_12 : decode b_Mo_settle 12 = .ok (.aload_n 0, 1) := by decide +kernel
theorem d_Mo_settle_13 : decode b_Mo_settle 13 = .ok (.getfield 219, 3) := by decide +kernel
theorem d_Mo_settle_16 : decode b_Mo_settle 16 = .ok (.bipush 12, 2) := by decide +kernel
theorem d_Mo_settle_18 : decode b_Mo_settle 18 = .ok (.if_icmp .le 6, 3) := by decide +kernel
theorem d_Mo_settle_21 : decode b_Mo_settle 21 = .ok (.bipush (-4), 2) := by decide +kernel
theorem d_Mo_settle_23 : decode b_Mo_settle 23 = .ok (.ireturn, 1) := by decide +kernel
theorem d_Mo_settle_24 : decode b_Mo_settle 24 = .ok (.iconst 0, 1) := by decide +kernel
theorem d_Mo_settle_25 : decode b_Mo_settle 25 = .ok (.istore_n 1, 1) := by decide +kernel
theorem d_Mo_settle_26 : decode b_Mo_settle 26 = .ok (.iload_n 1, 1) := by decide +kernel
theorem d_Mo_settle_27 : decode b_Mo_settle 27 = .ok (.iconst 3, 1) := by decide +kernel
theorem d_Mo_settle_28 : decode b_Mo_settle 28 = .ok (.if_icmp .ge 69, 3) := by decide +kernel
theorem d_Mo_settle_31 : decode b_Mo_settle 31 = .ok (.aload_n 0, 1) := by decide +kernel
theorem d_Mo_settle_32 : decode b_Mo_settle 32 = .ok (.getfield 16, 3) := by decide +kernel
theorem d_Mo_settle_35 : decode b_Mo_settle 35 = .ok (.iload_n 1, 1) := by decide +kernel
theorem d_Mo_settle_36 : decode b_Mo_settle 36 = .ok (.aload_n 0, 1) := by decide +kernel
theorem d_Mo_settle_37 : decode b_Mo_settle 37 = .ok (.getfield 219, 3) := by decide +kernel
theorem d_Mo_settle_40 : decode b_Mo_settle 40 = .ok (.iastore, 1) := by decide +kernel
theorem d_Mo_settle_41 : decode b_Mo_settle 41 = .ok (.iconst 0, 1) := by decide +kernel
theorem d_Mo_settle_42 : decode b_Mo_settle 42 = .ok (.istore_n 2, 1) := by decide +kernel
theorem d_Mo_settle_43 : decode b_Mo_settle 43 = .ok (.iload_n 2, 1) := by decide +kernel
theorem d_Mo_settle_44 : decode b_Mo_settle 44 = .ok (.aload_n 0, 1) := by decide +kernel
theorem d_Mo_settle_45 : decode b_Mo_settle 45 = .ok (.getfield 219, 3) := by decide +kernel
theorem d_Mo_settle_48 : decode b_Mo_settle 48 = .ok (.if_icmp .ge 43, 3) := by decide +kernel
theorem d_Mo_settle_51 : decode b_Mo_settle 51 = .ok (.aload_n 0, 1) := by decide +kernel
theorem d_Mo_settle_52 : decode b_Mo_settle 52 = .ok (.getfield 7, 3) := by decide +kernel
theorem d_Mo_settle_55 : decode b_Mo_settle 55 = .ok (.bipush 12, 2) := by decide +kernel
theorem d_Mo_settle_57 : decode b_Mo_settle 57 = .ok (.iload_n 1, 1) := by decide +kernel
theorem d_Mo_settle_58 : decode b_Mo_settle 58 = .ok (.imul, 1) := by decide +kernel
theorem d_Mo_settle_59 : decode b_Mo_settle 59 = .ok (.iload_n 2, 1) := by decide +kernel
theorem d_Mo_settle_60 : decode b_Mo_settle 60 = .ok (.iadd, 1) := by decide +kernel
theorem d_Mo_settle_61 : decode b_Mo_settle 61 = .ok (.aload_n 0, 1) := by decide +kernel
theorem d_Mo_settle_62 : decode b_Mo_settle 62 = .ok (.getfield 42, 3) := by decide +kernel
theorem d_Mo_settle_65 : decode b_Mo_settle 65 = .ok (.iload_n 2, 1) := by decide +kernel
theorem d_Mo_settle_66 : decode b_Mo_settle 66 = .ok (.iaload, 1) := by decide +kernel
theorem d_Mo_settle_67 : decode b_Mo_settle 67 = .ok (.iastore, 1) := by decide +kernel
theorem d_Mo_settle_68 : decode b_Mo_settle 68 = .ok (.aload_n 0, 1) := by decide +kernel
theorem d_Mo_settle_69 : decode b_Mo_settle 69 = .ok (.getfield 13, 3) := by decide +kernel
theorem d_Mo_settle_72 : decode b_Mo_settle 72 = .ok (.bipush 12, 2) := by decide +kernel
theorem d_Mo_settle_74 : decode b_Mo_settle 74 = .ok (.iload_n 1, 1) := by decide +kernel
theorem d_Mo_settle_75 : decode b_Mo_settle 75 = .ok (.imul, 1) := by decide +kernel
theorem d_Mo_settle_76 : decode b_Mo_settle 76 = .ok (.iload_n 2, 1) := by decide +kernel
theorem d_Mo_settle_77 : decode b_Mo_settle 77 = .ok (.iadd, 1) := by decide +kernel
theorem d_Mo_settle_78 : decode b_Mo_settle 78 = .ok (.aload_n 0, 1) := by decide +kernel
theorem d_Mo_settle_79 : decode b_Mo_settle 79 = .ok (.getfield 45, 3) := by decide +kernel
theorem d_Mo_settle_82 : decode b_Mo_settle 82 = .ok (.iload_n 2, 1) := by decide +kernel
theorem d_Mo_settle_83 : decode b_Mo_settle 83 = .ok (.iaload, 1) := by decide +kernel
theorem d_Mo_settle_84 : decode b_Mo_settle 84 = .ok (.iastore, 1) := by decide +kernel
theorem d_Mo_settle_85 : decode b_Mo_settle 85 = .ok (.iinc 2 1, 3) := by decide +kernel
theorem d_Mo_settle_88 : decode b_Mo_settle 88 = .ok (.goto (-45), 3) := by decide +kernel
theorem d_Mo_settle_91 : decode b_Mo_settle 91 = .ok (.iinc 1 1, 3) := by decide +kernel
theorem d_Mo_settle_94 : decode b_Mo_settle 94 = .ok (.goto (-68), 3) := by decide +kernel
theorem d_Mo_settle_97 : decode b_Mo_settle 97 = .ok (.aload_n 0, 1) := by decide +kernel
theorem d_Mo_settle_98 : decode b_Mo_settle 98 = .ok (.getfield 219, 3) := by decide +kernel
theorem d_Mo_settle_101 : decode b_Mo_settle 101 = .ok (.ireturn, 1) := by decide +kernel
def f_Mo_settle_43 (l0 : Nat) (l1 : Int32) (k26 : Int32 → Hp → Option (Int32 × Hp)) : Nat → Int32 → Hp → Option (Int32 × Hp)
  | 0, _, _ => none
  | n + 1, l2, h =>
    (gI h 9 l0 20).bind fun t7 =>
    if t7 ≤ l2 then (
      k26 (l1 + (1 : Int32)) h
    ) else (
      (gR h 9 l0 0).bind fun t8 =>
      (gR h 9 l0 16).bind fun t9 =>
      (gA h false t9 l2).bind fun t10 =>
      (sA h t8 (((12 : Int32) * l1) + l2) t10).bind fun h11 =>
      (gR h11 9 l0 1).bind fun t12 =>
      (gR h11 9 l0 17).bind fun t13 =>
      (gA h11 false t13 l2).bind fun t14 =>
      (sA h11 t12 (((12 : Int32) * l1) + l2) t14).bind fun h15 =>
      f_Mo_settle_43 l0 l1 k26 n (l2 + (1 : Int32)) h15
    )
set_option maxHeartbeats 4000000 in
set_option maxRecDepth 100000 in
theorem t_Mo_settle_43 {l0 : Nat} {l1 : Int32} {k26 : Int32 → Hp → Option (Int32 × Hp)} {r : (Int32 × Hp)} (C : Cx base D cI cZ b_Mo_settle 3 "MovedFoldersModel" "settle" (some .int) p s m args meth c) (hk26 : ∀ (l1 : Int32) (h : Hp), k26 l1 h = some r → ∀ (H : Heap) (locs : List Loc) (ls : Array Slot), RS base D cI cZ s H locs h → lv_has ls 3 [(0, .ref (base + l0)), (1, .int l1)] → Wg l base D cI cZ 9 212 0 0 r.2 (some (.int r.1)) p e s m args below meth c H locs 0 0 (F0 m 26 ls [])) : ∀ (n : Nat) (l2 : Int32) (h : Hp), f_Mo_settle_43 l0 l1 k26 n l2 h = some r → ∀ (H : Heap) (locs : List Loc) (ls : Array Slot), RS base D cI cZ s H locs h → lv_has ls 3 [(0, .ref (base + l0)), (1, .int l1), (2, .int l2)] → Wg l base D cI cZ 9 212 0 0 r.2 (some (.int r.1)) p e s m args below meth c H locs 0 0 (F0 m 43 ls []) := by
  have hx := C.1
  have hb := C.2.1
  intro n
  induction n with
  | zero =>
    intro l2 h hM
    rw [f_Mo_settle_43] at hM
    cases hM
  | succ n ih =>
    intro l2 h hM H locs ls hS hl
    rw [f_Mo_settle_43] at hM
    refine lv_iload_n hx hb d_Mo_settle_43 rfl (lv_at hl 2 rfl) ?_
    refine lv_aload_n hx hb d_Mo_settle_44 rfl (lv_at hl 0 rfl) ?_
    obtain ⟨t7, et7, hM⟩ := bS hM
    refine r_getI C hS fl_Mo_219 et7 d_Mo_settle_45 ?_
    refine lv_icmp_ge (tgt := 91) hx hb d_Mo_settle_48 (by decide) (fun c48_4 => ?_) (fun c48_4 => ?_)
    · rw [if_pos c48_4] at hM
      refine lv_iinc (v := (l1 + (1 : Int32))) (lv' := [(1, .int (l1 + (1 : Int32))), (0, .ref (base + l0)), (2, .int l2)]) hx hb d_Mo_settle_91 hl (k := 1) rfl (by rw [oi_1]) (by decide) rfl (fun ls hl => ?_)
      refine lv_goto (tgt := 26) hx hb d_Mo_settle_94 (by decide) ?_
      exact hk26 (l1 + (1 : Int32)) h hM _ _ _ hS (lv_sub hl [1, 0] rfl)
    · rw [if_neg c48_4] at hM
      refine lv_aload_n hx hb d_Mo_settle_51 rfl (lv_at hl 0 rfl) ?_
      obtain ⟨t8, et8, hM⟩ := bS hM
      refine r_getR C hS fl_Mo_7 et8 d_Mo_settle_52 ?_
      refine lv_bipush (v := (12 : Int32)) hx hb d_Mo_settle_55 (by decide) ?_
      refine lv_iload_n hx hb d_Mo_settle_57 rfl (lv_at hl 1 rfl) ?_
      refine lv_imul hx hb d_Mo_settle_58 ?_
      refine lv_iload_n hx hb d_Mo_settle_59 rfl (lv_at hl 2 rfl) ?_
      refine lv_iadd hx hb d_Mo_settle_60 ?_
      refine lv_aload_n hx hb d_Mo_settle_61 rfl (lv_at hl 0 rfl) ?_
      obtain ⟨t9, et9, hM⟩ := bS hM
      refine r_getR C hS fl_Mo_42 et9 d_Mo_settle_62 ?_
      refine lv_iload_n hx hb d_Mo_settle_65 rfl (lv_at hl 2 rfl) ?_
      obtain ⟨t10, et10, hM⟩ := bS hM
      refine r_iald C hS et10 d_Mo_settle_66 ?_
      obtain ⟨h11, eh11, hM⟩ := bS hM
      refine r_iast C hS eh11 d_Mo_settle_67 (fun H locs hS => ?_)
      refine lv_aload_n hx hb d_Mo_settle_68 rfl (lv_at hl 0 rfl) ?_
      obtain ⟨t12, et12, hM⟩ := bS hM
      refine r_getR C hS fl_Mo_13 et12 d_Mo_settle_69 ?_
      refine lv_bipush (v := (12 : Int32)) hx hb d_Mo_settle_72 (by decide) ?_
      refine lv_iload_n hx hb d_Mo_settle_74 rfl (lv_at hl 1 rfl) ?_
      refine lv_imul hx hb d_Mo_settle_75 ?_
      refine lv_iload_n hx hb d_Mo_settle_76 rfl (lv_at hl 2 rfl) ?_
      refine lv_iadd hx hb d_Mo_settle_77 ?_
      refine lv_aload_n hx hb d_Mo_settle_78 rfl (lv_at hl 0 rfl) ?_
      obtain ⟨t13, et13, hM⟩ := bS hM
      refine r_getR C hS fl_Mo_45 et13 d_Mo_settle_79 ?_
      refine lv_iload_n hx hb d_Mo_settle_82 rfl (lv_at hl 2 rfl) ?_
      obtain ⟨t14, et14, hM⟩ := bS hM
      refine r_iald C hS et14 d_Mo_settle_83 ?_
      obtain ⟨h15, eh15, hM⟩ := bS hM
      refine r_iast C hS eh15 d_Mo_settle_84 (fun H locs hS => ?_)
      refine lv_iinc (v := (l2 + (1 : Int32))) (lv' := [(2, .int (l2 + (1 : Int32))), (0, .ref (base + l0)), (1, .int l1)]) hx hb d_Mo_settle_85 hl (k := 2) rfl (by rw [oi_1]) (by decide) rfl (fun ls hl => ?_)
      refine lv_goto (tgt := 43) hx hb d_Mo_settle_88 (by decide) ?_
      exact ih (l2 + (1 : Int32)) h15 hM _ _ _ hS (lv_sub hl [1, 2, 0] rfl)
def f_Mo_settle_26 (l0 : Nat) : Nat → Int32 → Hp → Option (Int32 × Hp)
  | 0, _, _ => none
  | n + 1, l1, h =>
    if (3 : Int32) ≤ l1 then (
      (gI h 9 l0 20).bind fun t3 =>
      some (t3, h)
    ) else (
      (gR h 9 l0 2).bind fun t4 =>
      (gI h 9 l0 20).bind fun t5 =>
      (sA h t4 l1 t5).bind fun h6 =>
      f_Mo_settle_43 l0 l1 (fun l1 h => f_Mo_settle_26 l0 n l1 h) FU (0 : Int32) h6
    )
set_option maxHeartbeats 4000000 in
set_option maxRecDepth 100000 in
theorem t_Mo_settle_26 {l0 : Nat} {r : (Int32 × Hp)} (C : Cx base D cI cZ b_Mo_settle 3 "MovedFoldersModel" "settle" (some .int) p s m args meth c)  : ∀ (n : Nat) (l1 : Int32) (h : Hp), f_Mo_settle_26 l0 n l1 h = some r → ∀ (H : Heap) (locs : List Loc) (ls : Array Slot), RS base D cI cZ s H locs h → lv_has ls 3 [(0, .ref (base + l0)), (1, .int l1)] → Wg l base D cI cZ 9 212 0 0 r.2 (some (.int r.1)) p e s m args below meth c H locs 0 0 (F0 m 26 ls []) := by
  have hx := C.1
  have hb := C.2.1
  intro n
  induction n with
  | zero =>
    intro l1 h hM
    rw [f_Mo_settle_26] at hM
    cases hM
  | succ n ih =>
    intro l1 h hM H locs ls hS hl
    rw [f_Mo_settle_26] at hM
    refine lv_iload_n hx hb d_Mo_settle_26 rfl (lv_at hl 1 rfl) ?_
    refine lv_iconst (v := (3 : Int32)) hx hb d_Mo_settle_27 (by decide) ?_
    refine lv_icmp_ge (tgt := 97) hx hb d_Mo_settle_28 (by decide) (fun c28_3 => ?_) (fun c28_3 => ?_)
    · rw [if_pos c28_3] at hM
      refine lv_aload_n hx hb d_Mo_settle_97 rfl (lv_at hl 0 rfl) ?_
      obtain ⟨t3, et3, hM⟩ := bS hM
      refine r_getI C hS fl_Mo_219 et3 d_Mo_settle_98 ?_
      obtain rfl := Option.some.inj hM
      exact r_iret C hS d_Mo_settle_101
    · rw [if_neg c28_3] at hM
      refine lv_aload_n hx hb d_Mo_settle_31 rfl (lv_at hl 0 rfl) ?_
      obtain ⟨t4, et4, hM⟩ := bS hM
      refine r_getR C hS fl_Mo_16 et4 d_Mo_settle_32 ?_
      refine lv_iload_n hx hb d_Mo_settle_35 rfl (lv_at hl 1 rfl) ?_
      refine lv_aload_n hx hb d_Mo_settle_36 rfl (lv_at hl 0 rfl) ?_
      obtain ⟨t5, et5, hM⟩ := bS hM
      refine r_getI C hS fl_Mo_219 et5 d_Mo_settle_37 ?_
      obtain ⟨h6, eh6, hM⟩ := bS hM
      refine r_iast C hS eh6 d_Mo_settle_40 (fun H locs hS => ?_)
      refine lv_iconst (v := (0 : Int32)) hx hb d_Mo_settle_41 (by decide) ?_
      refine lv_istore_n (lv' := [(2, .int (0 : Int32)), (0, .ref (base + l0)), (1, .int l1)]) hx hb d_Mo_settle_42 rfl hl (by decide) rfl (fun ls hl => ?_)
      exact t_Mo_settle_43 (k26 := (fun l1 h => f_Mo_settle_26 l0 n l1 h)) C ih FU (0 : Int32) h6 hM _ _ _ hS (lv_sub hl [1, 2, 0] rfl)
def f_Mo_settle (h : Hp) (l0 : Nat) : Option (Int32 × Hp) :=
  ck h 9 l0 (
    (f_Mo_clash h l0 (-1 : Int32) (0 : Int32)).bind fun q1 =>
    if q1.1 ≤ (0 : Int32) then (
      (gI q1.2 9 l0 20).bind fun t2 =>
      if t2 ≤ (12 : Int32) then (
        f_Mo_settle_26 l0 FU (0 : Int32) q1.2
      ) else (
        some ((-4 : Int32), q1.2)
      )
    ) else (
      some ((-5 : Int32), q1.2)
    )
  )
theorem o_Mo_settle {h : Hp} {l0 : Nat} {r : (Int32 × Hp)} (hM : f_Mo_settle h l0 = some r) : isO h 9 l0 = true := by
  unfold f_Mo_settle at hM
  exact (ck_some hM).1
set_option maxHeartbeats 4000000 in
set_option maxRecDepth 100000 in
theorem t_Mo_settle {h : Hp} {l0 : Nat} {r : (Int32 × Hp)} (C : Cx base D cI cZ b_Mo_settle 3 "MovedFoldersModel" "settle" (some .int) p s m args meth c) (hM : f_Mo_settle h l0 = some r) (H : Heap) (locs : List Loc) (ls : Array Slot) (hS : RS base D cI cZ s H locs h) (hl : lv_has ls 3 [(0, .ref (base + l0))]) : Wg l base D cI cZ 9 212 0 0 r.2 (some (.int r.1)) p e s m args below meth c H locs 0 0 (F0 m 0 ls []) := by
  have hx := C.1
  have hb := C.2.1
  unfold f_Mo_settle at hM
  replace hM := (ck_some hM).2
  refine lv_aload_n hx hb d_Mo_settle_0 rfl (lv_at hl 0 rfl) ?_
  refine lv_iconst (v := (-1 : Int32)) hx hb d_Mo_settle_1 (by decide) ?_
  refine lv_iconst (v := (0 : Int32)) hx hb d_Mo_settle_2 (by decide) ?_
  obtain ⟨q1, eq1, hM⟩ := bS hM
  refine r_callVi (x := q1.1) C hS cv_Mo_279 (c_Mo_clash l base D cI cZ h l0 (-1 : Int32) (0 : Int32) eq1) (o_Mo_clash eq1) (rest := []) rfl hl.1 rfl (Nat.le_of_ble_eq_true rfl) ⟨(Nat.le_of_ble_eq_true rfl), (Nat.le_of_ble_eq_true rfl)⟩ ⟨(Nat.le_of_ble_eq_true rfl), (Nat.le_of_ble_eq_true rfl)⟩ d_Mo_settle_3 (fun H locs hS => ?_)
  refine lv_if_le (tgt := 12) hx hb d_Mo_settle_6 (by decide) (fun c6_1 => ?_) (fun c6_1 => ?_)
  · rw [if_pos c6_1] at hM
    refine lv_aload_n hx hb d_Mo_settle_12 rfl (lv_at hl 0 rfl) ?_
    obtain ⟨t2, et2, hM⟩ := bS hM
    refine r_getI C hS fl_Mo_219 et2 d_Mo_settle_13 ?_
    refine lv_bipush (v := (12 : Int32)) hx hb d_Mo_settle_16 (by decide) ?_
    refine lv_icmp_le (tgt := 24) hx hb d_Mo_settle_18 (by decide) (fun c18_2 => ?_) (fun c18_2 => ?_)
    · rw [if_pos c18_2] at hM
      refine lv_iconst (v := (0 : Int32)) hx hb d_Mo_settle_24 (by decide) ?_
      refine lv_istore_n (lv' := [(1, .int (0 : Int32)), (0, .ref (base + l0))]) hx hb d_Mo_settle_25 rfl hl (by decide) rfl (fun ls hl => ?_)
      exact t_Mo_settle_26  C  FU (0 : Int32) q1.2 hM _ _ _ hS (lv_sub hl [1, 0] rfl)
    · rw [if_neg c18_2] at hM
      refine lv_bipush (v := (-4 : Int32)) hx hb d_Mo_settle_21 (by decide) ?_
      obtain rfl := Option.some.inj hM
      exact r_iret C hS d_Mo_settle_23
  · rw [if_neg c6_1] at hM
    refine lv_bipush (v := (-5 : Int32)) hx hb d_Mo_settle_9 (by decide) ?_
    obtain rfl := Option.some.inj hM
    exact r_iret C hS d_Mo_settle_11
theorem c_Mo_settle (l : Launch) (base : Nat) (D : va_G) (cI cZ : ClassId) (h : Hp) (l0 : Nat) {r : (Int32 × Hp)} (hM : f_Mo_settle h l0 = some r) : Ct l base D cI cZ y_Mo_settle b_Mo_settle 3 (some .int) 9 212 0 0 h [.ref (base + l0)] r.2 (some (.int r.1)) :=
  ct_of (by decide) (Nat.le_of_ble_eq_true rfl) (fun p e s m below meth c ls C hS hl => t_Mo_settle C hM _ _ _ hS hl)
theorem d_Mo_exchange_0 : decode b_Mo_exchange 0 = .ok (.iconst 0, 1) := by decide +kernel
theorem d_Mo_exchange_1 : decode b_Mo_exchange 1 = .ok (.istore_n 1, 1) := by decide +kernel
theorem d_Mo_exchange_2 : decode b_Mo_exchange 2 = .ok (.iload_n 1, 1) := by decide +kernel
theorem d_Mo_exchange_3 : decode b_Mo_exchange 3 = .ok (.bipush 12, 2) := by decide +kernel
theorem d_Mo_exchange_5 : decode b_Mo_exchange 5 = .ok (.if_icmp .ge 39, 3) := by decide +kernel
theorem d_Mo_exchange_8 : decode b_Mo_exchange 8 = .ok (.aload_n 0, 1) := by decide +kernel
theorem d_Mo_exchange_9 : decode b_Mo_exchange 9 = .ok (.getfield 7, 3) := by decide +kernel
theorem d_Mo_exchange_12 : decode b_Mo_exchange 12 = .ok (.bipush 12, 2) := by decide +kernel
theorem d_Mo_exchange_14 : decode b_Mo_exchange 14 = .ok (.iload_n 1, 1) := by decide +kernel
theorem d_Mo_exchange_15 : decode b_Mo_exchange 15 = .ok (.iadd, 1) := by decide +kernel
theorem d_Mo_exchange_16 : decode b_Mo_exchange 16 = .ok (.bipush 24, 2) := by decide +kernel
theorem d_Mo_exchange_18 : decode b_Mo_exchange 18 = .ok (.iload_n 1, 1) := by decide +kernel
theorem d_Mo_exchange_19 : decode b_Mo_exchange 19 = .ok (.iadd, 1) := by decide +kernel
theorem d_Mo_exchange_20 : decode b_Mo_exchange 20 = .ok (.invokestatic 255, 3) := by decide +kernel
theorem d_Mo_exchange_23 : decode b_Mo_exchange 23 = .ok (.aload_n 0, 1) := by decide +kernel
theorem d_Mo_exchange_24 : decode b_Mo_exchange 24 = .ok (.getfield 13, 3) := by decide +kernel
theorem d_Mo_exchange_27 : decode b_Mo_exchange 27 = .ok (.bipush 12, 2) := by decide +kernel
theorem d_Mo_exchange_29 : decode b_Mo_exchange 29 = .ok (.iload_n 1, 1) := by decide +kernel
theorem d_Mo_exchange_30 : decode b_Mo_exchange 30 = .ok (.iadd, 1) := by decide +kernel
theorem d_Mo_exchange_31 : decode b_Mo_exchange 31 = .ok (.bipush 24, 2) := by decide +kernel
theorem d_Mo_exchange_33 : decode b_Mo_exchange 33 = .ok (.iload_n 1, 1) := by decide +kernel
theorem d_Mo_exchange_34 : decode b_Mo_exchange 34 = .ok (.iadd, 1) := by decide +kernel
theorem d_Mo_exchange_35 : decode b_Mo_exchange 35 = .ok (.invokestatic 255, 3) := by decide +kernel
theorem d_Mo_exchange_38 : decode b_Mo_exchange 38 = .ok (.iinc 1 1, 3) := by decide +kernel
theorem d_Mo_exchange_41 : decode b_Mo_exchange 41 = .ok (.goto (-39), 3) := by decide +kernel
theorem d_Mo_exchange_44 : decode b_Mo_exchange 44 = .ok (.aload_n 0, 1) := by decide +kernel
theorem d_Mo_exchange_45 : decode b_Mo_exchange 45 = .ok (.getfield 16, 3) := by decide +kernel
theorem d_Mo_exchange_48 : decode b_Mo_exchange 48 = .ok (.iconst 1, 1) := by decide +kernel
theorem d_Mo_exchange_49 : decode b_Mo_exchange 49 = .ok (.iconst 2, 1) := by decide +kernel
theorem d_Mo_exchange_50 : decode b_Mo_exchange 50 = .ok (.invokestatic 255, 3) := by decide +kernel
theorem d_Mo_exchange_53 : decode b_Mo_exchange 53 = .ok (.iconst 1, 1) := by decide +kernel
theorem d_Mo_exchange_54 : decode b_Mo_exchange 54 = .ok (.ireturn, 1) := by decide +kernel
def f_Mo_exchange_2 (l0 : Nat) : Nat → Int32 → Hp → Option (Int32 × Hp)
  | 0, _, _ => none
  | n + 1, l1, h =>
    if (12 : Int32) ≤ l1 then (
      (gR h 9 l0 2).bind fun t1 =>
      (f_Mo_change h t1 (1 : Int32) (2 : Int32)).bind fun h2 =>
      some ((1 : Int32), h2)
    ) else (
      (gR h 9 l0 0).bind fun t3 =>
      (f_Mo_change h t3 ((12 : Int32) + l1) ((24 : Int32) + l1)).bind fun h4 =>
      (gR h4 9 l0 1).bind fun t5 =>
      (f_Mo_change h4 t5 ((12 : Int32) + l1) ((24 : Int32) + l1)).bind fun h6 =>
      f_Mo_exchange_2 l0 n (l1 + (1 : Int32)) h6
    )
set_option maxHeartbeats 4000000 in
set_option maxRecDepth 100000 in
theorem t_Mo_exchange_2 {l0 : Nat} {r : (Int32 × Hp)} (C : Cx base D cI cZ b_Mo_exchange 2 "MovedFoldersModel" "exchange" (some .int) p s m args meth c)  : ∀ (n : Nat) (l1 : Int32) (h : Hp), f_Mo_exchange_2 l0 n l1 h = some r → ∀ (H : Heap) (locs : List Loc) (ls : Array Slot), RS base D cI cZ s H locs h → lv_has ls 2 [(0, .ref (base + l0)), (1, .int l1)] → Wg l base D cI cZ 1 23 0 0 r.2 (some (.int r.1)) p e s m args below meth c H locs 0 0 (F0 m 2 ls []) := by
  have hx := C.1
  have hb := C.2.1
  intro n
  induction n with
  | zero =>
    intro l1 h hM
    rw [f_Mo_exchange_2] at hM
    cases hM
  | succ n ih =>
    intro l1 h hM H locs ls hS hl
    rw [f_Mo_exchange_2] at hM
    refine lv_iload_n hx hb d_Mo_exchange_2 rfl (lv_at hl 1 rfl) ?_
    refine lv_bipush (v := (12 : Int32)) hx hb d_Mo_exchange_3 (by decide) ?_
    refine lv_icmp_ge (tgt := 44) hx hb d_Mo_exchange_5 (by decide) (fun c5_1 => ?_) (fun c5_1 => ?_)
    · rw [if_pos c5_1] at hM
      refine lv_aload_n hx hb d_Mo_exchange_44 rfl (lv_at hl 0 rfl) ?_
      obtain ⟨t1, et1, hM⟩ := bS hM
      refine r_getR C hS fl_Mo_16 et1 d_Mo_exchange_45 ?_
      refine lv_iconst (v := (1 : Int32)) hx hb d_Mo_exchange_48 (by decide) ?_
      refine lv_iconst (v := (2 : Int32)) hx hb d_Mo_exchange_49 (by decide) ?_
      obtain ⟨h2, eh2, hM⟩ := bS hM
      refine r_callSv C hS cs_Mo_255 (c_Mo_change l base D cI cZ h t1 (1 : Int32) (2 : Int32) eh2) (rest := []) rfl hl.1 rfl (Nat.le_of_ble_eq_true rfl) ⟨(Nat.le_of_ble_eq_true rfl), (Nat.le_of_ble_eq_true rfl)⟩ ⟨(Nat.le_of_ble_eq_true rfl), (Nat.le_of_ble_eq_true rfl)⟩ d_Mo_exchange_50 (fun H locs hS => ?_)
      refine lv_iconst (v := (1 : Int32)) hx hb d_Mo_exchange_53 (by decide) ?_
      obtain rfl := Option.some.inj hM
      exact r_iret C hS d_Mo_exchange_54
    · rw [if_neg c5_1] at hM
      refine lv_aload_n hx hb d_Mo_exchange_8 rfl (lv_at hl 0 rfl) ?_
      obtain ⟨t3, et3, hM⟩ := bS hM
      refine r_getR C hS fl_Mo_7 et3 d_Mo_exchange_9 ?_
      refine lv_bipush (v := (12 : Int32)) hx hb d_Mo_exchange_12 (by decide) ?_
      refine lv_iload_n hx hb d_Mo_exchange_14 rfl (lv_at hl 1 rfl) ?_
      refine lv_iadd hx hb d_Mo_exchange_15 ?_
      refine lv_bipush (v := (24 : Int32)) hx hb d_Mo_exchange_16 (by decide) ?_
      refine lv_iload_n hx hb d_Mo_exchange_18 rfl (lv_at hl 1 rfl) ?_
      refine lv_iadd hx hb d_Mo_exchange_19 ?_
      obtain ⟨h4, eh4, hM⟩ := bS hM
      refine r_callSv C hS cs_Mo_255 (c_Mo_change l base D cI cZ h t3 ((12 : Int32) + l1) ((24 : Int32) + l1) eh4) (rest := []) rfl hl.1 rfl (Nat.le_of_ble_eq_true rfl) ⟨(Nat.le_of_ble_eq_true rfl), (Nat.le_of_ble_eq_true rfl)⟩ ⟨(Nat.le_of_ble_eq_true rfl), (Nat.le_of_ble_eq_true rfl)⟩ d_Mo_exchange_20 (fun H locs hS => ?_)
      refine lv_aload_n hx hb d_Mo_exchange_23 rfl (lv_at hl 0 rfl) ?_
      obtain ⟨t5, et5, hM⟩ := bS hM
      refine r_getR C hS fl_Mo_13 et5 d_Mo_exchange_24 ?_
      refine lv_bipush (v := (12 : Int32)) hx hb d_Mo_exchange_27 (by decide) ?_
      refine lv_iload_n hx hb d_Mo_exchange_29 rfl (lv_at hl 1 rfl) ?_
      refine lv_iadd hx hb d_Mo_exchange_30 ?_
      refine lv_bipush (v := (24 : Int32)) hx hb d_Mo_exchange_31 (by decide) ?_
      refine lv_iload_n hx hb d_Mo_exchange_33 rfl (lv_at hl 1 rfl) ?_
      refine lv_iadd hx hb d_Mo_exchange_34 ?_
      obtain ⟨h6, eh6, hM⟩ := bS hM
      refine r_callSv C hS cs_Mo_255 (c_Mo_change l base D cI cZ h4 t5 ((12 : Int32) + l1) ((24 : Int32) + l1) eh6) (rest := []) rfl hl.1 rfl (Nat.le_of_ble_eq_true rfl) ⟨(Nat.le_of_ble_eq_true rfl), (Nat.le_of_ble_eq_true rfl)⟩ ⟨(Nat.le_of_ble_eq_true rfl), (Nat.le_of_ble_eq_true rfl)⟩ d_Mo_exchange_35 (fun H locs hS => ?_)
      refine lv_iinc (v := (l1 + (1 : Int32))) (lv' := [(1, .int (l1 + (1 : Int32))), (0, .ref (base + l0))]) hx hb d_Mo_exchange_38 hl (k := 1) rfl (by rw [oi_1]) (by decide) rfl (fun ls hl => ?_)
      refine lv_goto (tgt := 2) hx hb d_Mo_exchange_41 (by decide) ?_
      exact ih (l1 + (1 : Int32)) h6 hM _ _ _ hS (lv_sub hl [1, 0] rfl)
def f_Mo_exchange (h : Hp) (l0 : Nat) : Option (Int32 × Hp) :=
  ck h 9 l0 (
    f_Mo_exchange_2 l0 FU (0 : Int32) h
  )
theorem o_Mo_exchange {h : Hp} {l0 : Nat} {r : (Int32 × Hp)} (hM : f_Mo_exchange h l0 = some r) : isO h 9 l0 = true := by
  unfold f_Mo_exchange at hM
  exact (ck_some hM).1
set_option maxHeartbeats 4000000 in
set_option maxRecDepth 100000 in
theorem t_Mo_exchange {h : Hp} {l0 : Nat} {r : (Int32 × Hp)} (C : Cx base D cI cZ b_Mo_exchange 2 "MovedFoldersModel" "exchange" (some .int) p s m args meth c) (hM : f_Mo_exchange h l0 = some r) (H : Heap) (locs : List Loc) (ls : Array Slot) (hS : RS base D cI cZ s H locs h) (hl : lv_has ls 2 [(0, .ref (base + l0))]) : Wg l base D cI cZ 1 23 0 0 r.2 (some (.int r.1)) p e s m args below meth c H locs 0 0 (F0 m 0 ls []) := by
  have hx := C.1
  have hb := C.2.1
  unfold f_Mo_exchange at hM
  replace hM := (ck_some hM).2
  refine lv_iconst (v := (0 : Int32)) hx hb d_Mo_exchange_0 (by decide) ?_
  refine lv_istore_n (lv' := [(1, .int (0 : Int32)), (0, .ref (base + l0))]) hx hb d_Mo_exchange_1 rfl hl (by decide) rfl (fun ls hl => ?_)
  exact t_Mo_exchange_2  C  FU (0 : Int32) h hM _ _ _ hS (lv_sub hl [1, 0] rfl)
theorem c_Mo_exchange (l : Launch) (base : Nat) (D : va_G) (cI cZ : ClassId) (h : Hp) (l0 : Nat) {r : (Int32 × Hp)} (hM : f_Mo_exchange h l0 = some r) : Ct l base D cI cZ y_Mo_exchange b_Mo_exchange 2 (some .int) 1 23 0 0 h [.ref (base + l0)] r.2 (some (.int r.1)) :=
  ct_of (by decide) (Nat.le_of_ble_eq_true rfl) (fun p e s m below meth c ls C hS hl => t_Mo_exchange C hM _ _ _ hS hl)
theorem d_Mo_passRow_0 : decode b_Mo_passRow 0 = .ok (.iconst 0, 1) := by decide +kernel
theorem d_Mo_passRow_1 : decode b_Mo_passRow 1 = .ok (.istore_n 3, 1) := by decide +kernel
theorem d_Mo_passRow_2 : decode b_Mo_passRow 2 = .ok (.iload_n 3, 1) := by decide +kernel
theorem d_Mo_passRow_3 : decode b_Mo_passRow 3 = .ok (.iload_n 2, 1) := by decide +kernel
theorem d_Mo_passRow_4 : decode b_Mo_passRow 4 = .ok (.if_icmp .ge 56, 3) := by decide +kernel
theorem d_Mo_passRow_7 : decode b_Mo_passRow 7 = .ok (.aload_n 1, 1) := by decide +kernel
theorem d_Mo_passRow_8 : decode b_Mo_passRow 8 = .ok (.iload_n 3, 1) := by decide +kernel
theorem d_Mo_passRow_9 : decode b_Mo_passRow 9 = .ok (.aload_n 0, 1) := by decide +kernel
theorem d_Mo_passRow_10 : decode b_Mo_passRow 10 = .ok (.getfield 282, 3) := by decide +kernel
theorem d_Mo_passRow_13 : decode b_Mo_passRow 13 = .ok (.ifCond .eq 9, 3) := by decide +kernel
theorem d_Mo_passRow_16 : decode b_Mo_passRow 16 = .ok (.aload_n 1, 1) := by decide +kernel
theorem d_Mo_passRow_17 : decode b_Mo_passRow 17 = .ok (.iload_n 3, 1) := by decide +kernel
theorem d_Mo_passRow_18 : decode b_Mo_passRow 18 = .ok (.iaload, 1) := by decide +kernel
theorem d_Mo_passRow_19 : decode b_Mo_passRow 19 = .ok (.goto 12, 3) := by decide +kernel
theorem d_Mo_passRow_22 : decode b_Mo_passRow 22 = .ok (.aload_n 0, 1) := by decide +kernel
theorem d_Mo_passRow_23 : decode b_Mo_passRow 23 = .ok (.getfield 57, 3) := by decide +kernel
theorem d_Mo_passRow_26 : decode b_Mo_passRow 26 = .ok (.aload_n 0, 1) := by decide +kernel
theorem d_Mo_passRow_27 : decode b_Mo_passRow 27 = .ok (.getfield 286, 3) := by decide +kernel
theorem d_Mo_passRow_30 : decode b_Mo_passRow 30 = .ok (.iaload, 1) := by decide +kernel
theorem d_Mo_passRow_31 : decode b_Mo_passRow 31 = .ok (.iastore, 1) := by decide +kernel
theorem d_Mo_passRow_32 : decode b_Mo_passRow 32 = .ok (.aload_n 0, 1) := by decide +kernel
theorem d_Mo_passRow_33 : decode b_Mo_passRow 33 = .ok (.getfield 57, 3) := by decide +kernel
theorem d_Mo_passRow_36 : decode b_Mo_passRow 36 = .ok (.aload_n 0, 1) := by decide +kernel
theorem d_Mo_passRow_37 : decode b_Mo_passRow 37 = .ok (.getfield 286, 3) := by decide +kernel
theorem d_Mo_passRow_40 : decode b_Mo_passRow 40 = .ok (.aload_n 1, 1) := by decide +kernel
theorem d_Mo_passRow_41 : decode b_Mo_passRow 41 = .ok (.iload_n 3, 1) := by decide +kernel
theorem d_Mo_passRow_42 : decode b_Mo_passRow 42 = .ok (.iaload, 1) := by decide +kernel
theorem d_Mo_passRow_43 : decode b_Mo_passRow 43 = .ok (.iastore, 1) := by decide +kernel
theorem d_Mo_passRow_44 : decode b_Mo_passRow 44 = .ok (.aload_n 0, 1) := by decide +kernel
theorem d_Mo_passRow_45 : decode b_Mo_passRow 45 = .ok (.dup, 1) := by decide +kernel
theorem d_Mo_passRow_46 : decode b_Mo_passRow 46 = .ok (.getfield 286, 3) := by decide +kernel
theorem d_Mo_passRow_49 : decode b_Mo_passRow 49 = .ok (.iconst 1, 1) := by decide +kernel
theorem d_Mo_passRow_50 : decode b_Mo_passRow 50 = .ok (.iadd, 1) := by decide +kernel
theorem d_Mo_passRow_51 : decode b_Mo_passRow 51 = .ok (.putfield 286, 3) := by decide +kernel
theorem d_Mo_passRow_54 : decode b_Mo_passRow 54 = .ok (.iinc 3 1, 3) := by decide +kernel
theorem d_Mo_passRow_57 : decode b_Mo_passRow 57 = .ok (.goto (-55), 3) := by decide +kernel
theorem d_Mo_passRow_60 : decode b_Mo_passRow 60 = .ok (.return_, 1) := by decide +kernel
def f_Mo_passRow_2 (l0 : Nat) (l1 : Nat) (l2 : Int32) : Nat → Int32 → Hp → Option Hp
  | 0, _, _ => none
  | n + 1, l3, h =>
    if l2 ≤ l3 then (
      some h
    ) else (
      (gI h 9 l0 26).bind fun t1 =>
      (
        if t1 = (0 : Int32) then (
          (gR h 9 l0 23).bind fun t3 =>
          (gI h 9 l0 25).bind fun t4 =>
          (gA h false t3 t4).bind fun t5 =>
          some t5
        ) else (
          (gA h false l1 l3).bind fun t6 =>
          some t6
        )
      ).bind fun t2 =>
      (sA h l1 l3 t2).bind fun h7 =>
      (gR h7 9 l0 23).bind fun t8 =>
      (gI h7 9 l0 25).bind fun t9 =>
      (gA h7 false l1 l3).bind fun t10 =>
      (sA h7 t8 t9 t10).bind fun h11 =>
      (gI h11 9 l0 25).bind fun t12 =>
      (sI h11 9 l0 25 (t12 + (1 : Int32))).bind fun h13 =>
      f_Mo_passRow_2 l0 l1 l2 n (l3 + (1 : Int32)) h13
    )
set_option maxHeartbeats 4000000 in
set_option maxRecDepth 100000 in
theorem t_Mo_passRow_2 {l0 : Nat} {l1 : Nat} {l2 : Int32} {r : Hp} (C : Cx base D cI cZ b_Mo_passRow 4 "MovedFoldersModel" "passRow" none p s m args meth c)  : ∀ (n : Nat) (l3 : Int32) (h : Hp), f_Mo_passRow_2 l0 l1 l2 n l3 h = some r → ∀ (H : Heap) (locs : List Loc) (ls : Array Slot), RS base D cI cZ s H locs h → lv_has ls 4 [(0, .ref (base + l0)), (1, .ref (base + l1)), (2, .int l2), (3, .int l3)] → Wg l base D cI cZ 0 0 0 0 r none p e s m args below meth c H locs 0 0 (F0 m 2 ls []) := by
  have hx := C.1
  have hb := C.2.1
  intro n
  induction n with
  | zero =>
    intro l3 h hM
    rw [f_Mo_passRow_2] at hM
    cases hM
  | succ n ih =>
    intro l3 h hM H locs ls hS hl
    rw [f_Mo_passRow_2] at hM
    refine lv_iload_n hx hb d_Mo_passRow_2 rfl (lv_at hl 3 rfl) ?_
    refine lv_iload_n hx hb d_Mo_passRow_3 rfl (lv_at hl 2 rfl) ?_
    refine lv_icmp_ge (tgt := 60) hx hb d_Mo_passRow_4 (by decide) (fun c4_1 => ?_) (fun c4_1 => ?_)
    · rw [if_pos c4_1] at hM
      obtain rfl := Option.some.inj hM
      exact r_vret C hS d_Mo_passRow_60
    · rw [if_neg c4_1] at hM
      refine lv_aload_n hx hb d_Mo_passRow_7 rfl (lv_at hl 1 rfl) ?_
      refine lv_iload_n hx hb d_Mo_passRow_8 rfl (lv_at hl 3 rfl) ?_
      refine lv_aload_n hx hb d_Mo_passRow_9 rfl (lv_at hl 0 rfl) ?_
      obtain ⟨t1, et1, hM⟩ := bS hM
      refine r_getI C hS fl_Mo_282 et1 d_Mo_passRow_10 ?_
      obtain ⟨t2, et2, hM⟩ := bS hM
      have kJ31_2 : ∀ (H : Heap) (locs : List Loc) (ls : Array Slot), RS base D cI cZ s H locs h → lv_has ls 4 [(0, .ref (base + l0)), (1, .ref (base + l1)), (2, .int l2), (3, .int l3)] → Wg l base D cI cZ 0 0 0 0 r none p e s m args below meth c H locs 0 0 (F0 m 31 ls [.int t2, .int l3, .ref (base + l1)]) := by
        intro H locs ls hS hl
        obtain ⟨h7, eh7, hM⟩ := bS hM
        refine r_iast C hS eh7 d_Mo_passRow_31 (fun H locs hS => ?_)
        refine lv_aload_n hx hb d_Mo_passRow_32 rfl (lv_at hl 0 rfl) ?_
        obtain ⟨t8, et8, hM⟩ := bS hM
        refine r_getR C hS fl_Mo_57 et8 d_Mo_passRow_33 ?_
        refine lv_aload_n hx hb d_Mo_passRow_36 rfl (lv_at hl 0 rfl) ?_
        obtain ⟨t9, et9, hM⟩ := bS hM
        refine r_getI C hS fl_Mo_286 et9 d_Mo_passRow_37 ?_
        refine lv_aload_n hx hb d_Mo_passRow_40 rfl (lv_at hl 1 rfl) ?_
        refine lv_iload_n hx hb d_Mo_passRow_41 rfl (lv_at hl 3 rfl) ?_
        obtain ⟨t10, et10, hM⟩ := bS hM
        refine r_iald C hS et10 d_Mo_passRow_42 ?_
        obtain ⟨h11, eh11, hM⟩ := bS hM
        refine r_iast C hS eh11 d_Mo_passRow_43 (fun H locs hS => ?_)
        refine lv_aload_n hx hb d_Mo_passRow_44 rfl (lv_at hl 0 rfl) ?_
        refine lv_dup hx hb d_Mo_passRow_45 rfl ?_
        obtain ⟨t12, et12, hM⟩ := bS hM
        refine r_getI C hS fl_Mo_286 et12 d_Mo_passRow_46 ?_
        refine lv_iconst (v := (1 : Int32)) hx hb d_Mo_passRow_49 (by decide) ?_
        refine lv_iadd hx hb d_Mo_passRow_50 ?_
        obtain ⟨h13, eh13, hM⟩ := bS hM
        refine r_putI C hS fp_Mo_286 eh13 d_Mo_passRow_51 (fun H locs hS => ?_)
        refine lv_iinc (v := (l3 + (1 : Int32))) (lv' := [(3, .int (l3 + (1 : Int32))), (0, .ref (base + l0)), (1, .ref (base + l1)), (2, .int l2)]) hx hb d_Mo_passRow_54 hl (k := 3) rfl (by rw [oi_1]) (by decide) rfl (fun ls hl => ?_)
        refine lv_goto (tgt := 2) hx hb d_Mo_passRow_57 (by decide) ?_
        exact ih (l3 + (1 : Int32)) h13 hM _ _ _ hS (lv_sub hl [1, 2, 3, 0] rfl)
      refine lv_if_eq (tgt := 22) hx hb d_Mo_passRow_13 (by decide) (fun c13_3 => ?_) (fun c13_3 => ?_)
      · rw [if_pos c13_3] at et2
        refine lv_aload_n hx hb d_Mo_passRow_22 rfl (lv_at hl 0 rfl) ?_
        obtain ⟨t3, et3, et2⟩ := bS et2
        refine r_getR C hS fl_Mo_57 et3 d_Mo_passRow_23 ?_
        refine lv_aload_n hx hb d_Mo_passRow_26 rfl (lv_at hl 0 rfl) ?_
        obtain ⟨t4, et4, et2⟩ := bS et2
        refine r_getI C hS fl_Mo_286 et4 d_Mo_passRow_27 ?_
        obtain ⟨t5, et5, et2⟩ := bS et2
        refine r_iald C hS et5 d_Mo_passRow_30 ?_
        obtain rfl := Option.some.inj et2
        exact kJ31_2 _ _ _ hS (lv_sub hl [0, 1, 2, 3] rfl)
      · rw [if_neg c13_3] at et2
        refine lv_aload_n hx hb d_Mo_passRow_16 rfl (lv_at hl 1 rfl) ?_
        refine lv_iload_n hx hb d_Mo_passRow_17 rfl (lv_at hl 3 rfl) ?_
        obtain ⟨t6, et6, et2⟩ := bS et2
        refine r_iald C hS et6 d_Mo_passRow_18 ?_
        refine lv_goto (tgt := 31) hx hb d_Mo_passRow_19 (by decide) ?_
        obtain rfl := Option.some.inj et2
        exact kJ31_2 _ _ _ hS (lv_sub hl [0, 1, 2, 3] rfl)
def f_Mo_passRow (h : Hp) (l0 : Nat) (l1 : Nat) (l2 : Int32) : Option Hp :=
  ck h 9 l0 (
    f_Mo_passRow_2 l0 l1 l2 FU (0 : Int32) h
  )
theorem o_Mo_passRow {h : Hp} {l0 : Nat} {l1 : Nat} {l2 : Int32} {r : Hp} (hM : f_Mo_passRow h l0 l1 l2 = some r) : isO h 9 l0 = true := by
  unfold f_Mo_passRow at hM
  exact (ck_some hM).1
set_option maxHeartbeats 4000000 in
set_option maxRecDepth 100000 in
theorem t_Mo_passRow {h : Hp} {l0 : Nat} {l1 : Nat} {l2 : Int32} {r : Hp} (C : Cx base D cI cZ b_Mo_passRow 4 "MovedFoldersModel" "passRow" none p s m args meth c) (hM : f_Mo_passRow h l0 l1 l2 = some r) (H : Heap) (locs : List Loc) (ls : Array Slot) (hS : RS base D cI cZ s H locs h) (hl : lv_has ls 4 [(0, .ref (base + l0)), (1, .ref (base + l1)), (2, .int l2)]) : Wg l base D cI cZ 0 0 0 0 r none p e s m args below meth c H locs 0 0 (F0 m 0 ls []) := by
  have hx := C.1
  have hb := C.2.1
  unfold f_Mo_passRow at hM
  replace hM := (ck_some hM).2
  refine lv_iconst (v := (0 : Int32)) hx hb d_Mo_passRow_0 (by decide) ?_
  refine lv_istore_n (lv' := [(3, .int (0 : Int32)), (0, .ref (base + l0)), (1, .ref (base + l1)), (2, .int l2)]) hx hb d_Mo_passRow_1 rfl hl (by decide) rfl (fun ls hl => ?_)
  exact t_Mo_passRow_2  C  FU (0 : Int32) h hM _ _ _ hS (lv_sub hl [1, 2, 3, 0] rfl)
theorem c_Mo_passRow (l : Launch) (base : Nat) (D : va_G) (cI cZ : ClassId) (h : Hp) (l0 : Nat) (l1 : Nat) (l2 : Int32) {r : Hp} (hM : f_Mo_passRow h l0 l1 l2 = some r) : Ct l base D cI cZ y_Mo_passRow b_Mo_passRow 4 none 0 0 0 0 h [.ref (base + l0), .ref (base + l1), .int l2] r none :=
  ct_of (by decide) (Nat.le_of_ble_eq_true rfl) (fun p e s m below meth c ls C hS hl => t_Mo_passRow C hM _ _ _ hS hl)
theorem d_Mo_passAll_0 : decode b_Mo_passAll 0 = .ok (.aload_n 0, 1) := by decide +kernel
theorem d_Mo_passAll_1 : decode b_Mo_passAll 1 = .ok (.aload_n 0, 1) := by decide +kernel
theorem d_Mo_passAll_2 : decode b_Mo_passAll 2 = .ok (.getfield 7, 3) := by decide +kernel
theorem d_Mo_passAll_5 : decode b_Mo_passAll 5 = .ok (.bipush 36, 2) := by decide +kernel
theorem d_Mo_passAll_7 : decode b_Mo_passAll 7 = .ok (.invokevirtual 289, 3) := by decide +kernel
theorem d_Mo_passAll_10 : decode b_Mo_passAll 10 = .ok (.aload_n 0, 1) := by decide +kernel
theorem d_Mo_passAll_11 : decode b_Mo_passAll 11 = .ok (.aload_n 0, 1) := by decide +kernel
theorem d_Mo_passAll_12 : decode b_Mo_passAll 12 = .ok (.getfield 13, 3) := by decide +kernel
theorem d_Mo_passAll_15 : decode b_Mo_passAll 15 = .ok (.bipush 36, 2) := by decide +kernel
theorem d_Mo_passAll_17 : decode b_Mo_passAll 17 = .ok (.invokevirtual 289, 3) := by decide +kernel
theorem d_Mo_passAll_20 : decode b_Mo_passAll 20 = .ok (.aload_n 0, 1) := by decide +kernel
theorem d_Mo_passAll_21 : decode b_Mo_passAll 21 = .ok (.aload_n 0, 1) := by decide +kernel
theorem d_Mo_passAll_22 : decode b_Mo_passAll 22 = .ok (.getfield 16, 3) := by decide +kernel
theorem d_Mo_passAll_25 : decode b_Mo_passAll 25 = .ok (.iconst 3, 1) := by decide +kernel
theorem d_Mo_passAll_26 : decode b_Mo_passAll 26 = .ok (.invokevirtual 289, 3) := by decide +kernel
theorem d_Mo_passAll_29 : decode b_Mo_passAll 29 = .ok (.aload_n 0, 1) := by decide +kernel
theorem d_Mo_passAll_30 : decode b_Mo_passAll 30 = .ok (.aload_n 0, 1) := by decide +kernel
theorem d_Mo_passAll_31 : decode b_Mo_passAll 31 = .ok (.getfield 282, 3) := by decide +kernel
theorem d_Mo_passAll_34 : decode b_Mo_passAll 34 = .ok (.ifCond .eq 10, 3) := by decide +kernel
theorem d_Mo_passAll_37 : decode b_Mo_passAll 37 = .ok (.aload_n 0, 1) := by decide +kernel
theorem d_Mo_passAll_38 : decode b_Mo_passAll 38 = .ok (.getfield 19, 3) := by decide +kernel
theorem d_Mo_passAll_41 : decode b_Mo_passAll 41 = .ok (.goto 12, 3) := by decide +kernel
theorem d_Mo_passAll_44 : decode b_Mo_passAll 44 = .ok (.aload_n 0, 1) := by decide +kernel
theorem d_Mo_passAll_45 : decode b_Mo_passAll 45 = .ok (.getfield 57, 3) := by decide +kernel
theorem d_Mo_passAll_48 : decode b_Mo_passAll 48 = .ok (.aload_n 0, 1) := by decide +kernel
theorem d_Mo_passAll_49 : decode b_Mo_passAll 49 = .ok (.getfield 286, 3) := by decide +kernel
theorem d_Mo_passAll_52 : decode b_Mo_passAll 52 = .ok (.iaload, 1) := by decide +kernel
theorem d_Mo_passAll_53 : decode b_Mo_passAll 53 = .ok (.putfield 19, 3) := by decide +kernel
theorem d_Mo_passAll_56 : decode b_Mo_passAll 56 = .ok (.aload_n 0, 1) := by decide +kernel
theorem d_Mo_passAll_57 : decode b_Mo_passAll 57 = .ok (.getfield 57, 3) := by decide +kernel
theorem d_Mo_passAll_60 : decode b_Mo_passAll 60 = .ok (.aload_n 0, 1) := by decide +kernel
theorem d_Mo_passAll_61 : decode b_Mo_passAll 61 = .ok (.getfield 286, 3) := by decide +kernel
theorem d_Mo_passAll_64 : decode b_Mo_passAll 64 = .ok (.aload_n 0, 1) := by decide +kernel
theorem d_Mo_passAll_65 : decode b_Mo_passAll 65 = .ok (.getfield 19, 3) := by decide +kernel
theorem d_Mo_passAll_68 : decode b_Mo_passAll 68 = .ok (.iastore, 1) := by decide +kernel
theorem d_Mo_passAll_69 : decode b_Mo_passAll 69 = .ok (.return_, 1) := by decide +kernel
def f_Mo_passAll (h : Hp) (l0 : Nat) : Option Hp :=
  ck h 9 l0 (
    (gR h 9 l0 0).bind fun t1 =>
    (f_Mo_passRow h l0 t1 (36 : Int32)).bind fun h2 =>
    (gR h2 9 l0 1).bind fun t3 =>
    (f_Mo_passRow h2 l0 t3 (36 : Int32)).bind fun h4 =>
    (gR h4 9 l0 2).bind fun t5 =>
    (f_Mo_passRow h4 l0 t5 (3 : Int32)).bind fun h6 =>
    (gI h6 9 l0 26).bind fun t7 =>
    (
      if t7 = (0 : Int32) then (
        (gR h6 9 l0 23).bind fun t9 =>
        (gI h6 9 l0 25).bind fun t10 =>
        (gA h6 false t9 t10).bind fun t11 =>
        some t11
      ) else (
        (gI h6 9 l0 3).bind fun t12 =>
        some t12
      )
    ).bind fun t8 =>
    (sI h6 9 l0 3 t8).bind fun h13 =>
    (gR h13 9 l0 23).bind fun t14 =>
    (gI h13 9 l0 25).bind fun t15 =>
    (gI h13 9 l0 3).bind fun t16 =>
    (sA h13 t14 t15 t16).bind fun h17 =>
    some h17
  )
theorem o_Mo_passAll {h : Hp} {l0 : Nat} {r : Hp} (hM : f_Mo_passAll h l0 = some r) : isO h 9 l0 = true := by
  unfold f_Mo_passAll at hM
  exact (ck_some hM).1
set_option maxHeartbeats 4000000 in
set_option maxRecDepth 100000 in
theorem t_Mo_passAll {h : Hp} {l0 : Nat} {r : Hp} (C : Cx base D cI cZ b_Mo_passAll 1 "MovedFoldersModel" "passAll" none p s m args meth c) (hM : f_Mo_passAll h l0 = some r) (H : Heap) (locs : List Loc) (ls : Array Slot) (hS : RS base D cI cZ s H locs h) (hl : lv_has ls 1 [(0, .ref (base + l0))]) : Wg l base D cI cZ 1 23 0 0 r none p e s m args below meth c H locs 0 0 (F0 m 0 ls []) := by
  have hx := C.1
  have hb := C.2.1
  unfold f_Mo_passAll at hM
  replace hM := (ck_some hM).2
  refine lv_aload_n hx hb d_Mo_passAll_0 rfl (lv_at hl 0 rfl) ?_
  refine lv_aload_n hx hb d_Mo_passAll_1 rfl (lv_at hl 0 rfl) ?_
  obtain ⟨t1, et1, hM⟩ := bS hM
  refine r_getR C hS fl_Mo_7 et1 d_Mo_passAll_2 ?_
  refine lv_bipush (v := (36 : Int32)) hx hb d_Mo_passAll_5 (by decide) ?_
  obtain ⟨h2, eh2, hM⟩ := bS hM
  refine r_callVv C hS cv_Mo_289 (c_Mo_passRow l base D cI cZ h l0 t1 (36 : Int32) eh2) (o_Mo_passRow eh2) (rest := []) rfl hl.1 rfl (Nat.le_of_ble_eq_true rfl) ⟨(Nat.le_of_ble_eq_true rfl), (Nat.le_of_ble_eq_true rfl)⟩ ⟨(Nat.le_of_ble_eq_true rfl), (Nat.le_of_ble_eq_true rfl)⟩ d_Mo_passAll_7 (fun H locs hS => ?_)
  refine lv_aload_n hx hb d_Mo_passAll_10 rfl (lv_at hl 0 rfl) ?_
  refine lv_aload_n hx hb d_Mo_passAll_11 rfl (lv_at hl 0 rfl) ?_
  obtain ⟨t3, et3, hM⟩ := bS hM
  refine r_getR C hS fl_Mo_13 et3 d_Mo_passAll_12 ?_
  refine lv_bipush (v := (36 : Int32)) hx hb d_Mo_passAll_15 (by decide) ?_
  obtain ⟨h4, eh4, hM⟩ := bS hM
  refine r_callVv C hS cv_Mo_289 (c_Mo_passRow l base D cI cZ h2 l0 t3 (36 : Int32) eh4) (o_Mo_passRow eh4) (rest := []) rfl hl.1 rfl (Nat.le_of_ble_eq_true rfl) ⟨(Nat.le_of_ble_eq_true rfl), (Nat.le_of_ble_eq_true rfl)⟩ ⟨(Nat.le_of_ble_eq_true rfl), (Nat.le_of_ble_eq_true rfl)⟩ d_Mo_passAll_17 (fun H locs hS => ?_)
  refine lv_aload_n hx hb d_Mo_passAll_20 rfl (lv_at hl 0 rfl) ?_
  refine lv_aload_n hx hb d_Mo_passAll_21 rfl (lv_at hl 0 rfl) ?_
  obtain ⟨t5, et5, hM⟩ := bS hM
  refine r_getR C hS fl_Mo_16 et5 d_Mo_passAll_22 ?_
  refine lv_iconst (v := (3 : Int32)) hx hb d_Mo_passAll_25 (by decide) ?_
  obtain ⟨h6, eh6, hM⟩ := bS hM
  refine r_callVv C hS cv_Mo_289 (c_Mo_passRow l base D cI cZ h4 l0 t5 (3 : Int32) eh6) (o_Mo_passRow eh6) (rest := []) rfl hl.1 rfl (Nat.le_of_ble_eq_true rfl) ⟨(Nat.le_of_ble_eq_true rfl), (Nat.le_of_ble_eq_true rfl)⟩ ⟨(Nat.le_of_ble_eq_true rfl), (Nat.le_of_ble_eq_true rfl)⟩ d_Mo_passAll_26 (fun H locs hS => ?_)
  refine lv_aload_n hx hb d_Mo_passAll_29 rfl (lv_at hl 0 rfl) ?_
  refine lv_aload_n hx hb d_Mo_passAll_30 rfl (lv_at hl 0 rfl) ?_
  obtain ⟨t7, et7, hM⟩ := bS hM
  refine r_getI C hS fl_Mo_282 et7 d_Mo_passAll_31 ?_
  obtain ⟨t8, et8, hM⟩ := bS hM
  have kJ53_1 : ∀ (H : Heap) (locs : List Loc) (ls : Array Slot), RS base D cI cZ s H locs h6 → lv_has ls 1 [(0, .ref (base + l0))] → Wg l base D cI cZ 1 23 0 0 r none p e s m args below meth c H locs 0 0 (F0 m 53 ls [.int t8, .ref (base + l0)]) := by
    intro H locs ls hS hl
    obtain ⟨h13, eh13, hM⟩ := bS hM
    refine r_putI C hS fp_Mo_19 eh13 d_Mo_passAll_53 (fun H locs hS => ?_)
    refine lv_aload_n hx hb d_Mo_passAll_56 rfl (lv_at hl 0 rfl) ?_
    obtain ⟨t14, et14, hM⟩ := bS hM
    refine r_getR C hS fl_Mo_57 et14 d_Mo_passAll_57 ?_
    refine lv_aload_n hx hb d_Mo_passAll_60 rfl (lv_at hl 0 rfl) ?_
    obtain ⟨t15, et15, hM⟩ := bS hM
    refine r_getI C hS fl_Mo_286 et15 d_Mo_passAll_61 ?_
    refine lv_aload_n hx hb d_Mo_passAll_64 rfl (lv_at hl 0 rfl) ?_
    obtain ⟨t16, et16, hM⟩ := bS hM
    refine r_getI C hS fl_Mo_19 et16 d_Mo_passAll_65 ?_
    obtain ⟨h17, eh17, hM⟩ := bS hM
    refine r_iast C hS eh17 d_Mo_passAll_68 (fun H locs hS => ?_)
    obtain rfl := Option.some.inj hM
    exact r_vret C hS d_Mo_passAll_69
  refine lv_if_eq (tgt := 44) hx hb d_Mo_passAll_34 (by decide) (fun c34_2 => ?_) (fun c34_2 => ?_)
  · rw [if_pos c34_2] at et8
    refine lv_aload_n hx hb d_Mo_passAll_44 rfl (lv_at hl 0 rfl) ?_
    obtain ⟨t9, et9, et8⟩ := bS et8
    refine r_getR C hS fl_Mo_57 et9 d_Mo_passAll_45 ?_
    refine lv_aload_n hx hb d_Mo_passAll_48 rfl (lv_at hl 0 rfl) ?_
    obtain ⟨t10, et10, et8⟩ := bS et8
    refine r_getI C hS fl_Mo_286 et10 d_Mo_passAll_49 ?_
    obtain ⟨t11, et11, et8⟩ := bS et8
    refine r_iald C hS et11 d_Mo_passAll_52 ?_
    obtain rfl := Option.some.inj et8
    exact kJ53_1 _ _ _ hS (lv_sub hl [0] rfl)
  · rw [if_neg c34_2] at et8
    refine lv_aload_n hx hb d_Mo_passAll_37 rfl (lv_at hl 0 rfl) ?_
    obtain ⟨t12, et12, et8⟩ := bS et8
    refine r_getI C hS fl_Mo_19 et12 d_Mo_passAll_38 ?_
    refine lv_goto (tgt := 53) hx hb d_Mo_passAll_41 (by decide) ?_
    obtain rfl := Option.some.inj et8
    exact kJ53_1 _ _ _ hS (lv_sub hl [0] rfl)
theorem c_Mo_passAll (l : Launch) (base : Nat) (D : va_G) (cI cZ : ClassId) (h : Hp) (l0 : Nat) {r : Hp} (hM : f_Mo_passAll h l0 = some r) : Ct l base D cI cZ y_Mo_passAll b_Mo_passAll 1 none 1 23 0 0 h [.ref (base + l0)] r none :=
  ct_of (by decide) (Nat.le_of_ble_eq_true rfl) (fun p e s m below meth c ls C hS hl => t_Mo_passAll C hM _ _ _ hS hl)
theorem d_Mo_image_0 : decode b_Mo_image 0 = .ok (.iload_n 1, 1) := by decide +kernel
theorem d_Mo_image_1 : decode b_Mo_image 1 = .ok (.i2l, 1) := by decide +kernel
theorem d_Mo_image_2 : decode b_Mo_image 2 = .ok (.lconst 0, 1) := by decide +kernel
theorem d_Mo_image_3 : decode b_Mo_image 3 = .ok (.lconst 1, 1) := by decide +kernel
theorem d_Mo_image_4 : decode b_Mo_image 4 = .ok (.invokestatic 65, 3) := by decide +kernel
theorem d_Mo_image_7 : decode b_Mo_image 7 = .ok (.ifCond .ne 6, 3) := by decide +kernel
theorem d_Mo_image_10 : decode b_Mo_image 10 = .ok (.bipush (-2), 2) := by decide +kernel
theorem d_Mo_image_12 : decode b_Mo_image 12 = .ok (.ireturn, 1) := by decide +kernel
theorem d_Mo_image_13 : decode b_Mo_image 13 = .ok (.aload_n 0, 1) := by decide +kernel
theorem d_Mo_image_14 : decode b_Mo_image 14 = .ok (.bipush 76, 2) := by decide +kernel
theorem d_Mo_image_16 : decode b_Mo_image 16 = .ok (.iload_n 1, 1) := by decide +kernel
theorem d_Mo_image_17 : decode b_Mo_image 17 = .ok (.imul, 1) := by decide +kernel
theorem d_Mo_image_18 : decode b_Mo_image 18 = .ok (.putfield 286, 3) := by decide +kernel
theorem d_Mo_image_21 : decode b_Mo_image 21 = .ok (.aload_n 0, 1) := by decide +kernel
theorem d_Mo_image_22 : decode b_Mo_image 22 = .ok (.iconst 1, 1) := by decide +kernel
theorem d_Mo_image_23 : decode b_Mo_image 23 = .ok (.putfield 282, 3) := by decide +kernel
theorem d_Mo_image_26 : decode b_Mo_image 26 = .ok (.aload_n 0, 1) := by decide +kernel
theorem d_Mo_image_27 : decode b_Mo_image 27 = .ok (.invokevirtual 293, 3) := by decide +kernel
theorem d_Mo_image_30 : decode b_Mo_image 30 = .ok (.aload_n 0, 1) := by decide +kernel
theorem d_Mo_image_31 : decode b_Mo_image 31 = .ok (.getfield 60, 3) := by decide +kernel
theorem d_Mo_image_34 : decode b_Mo_image 34 = .ok (.iload_n 1, 1) := by decide +kernel
theorem d_Mo_image_35 : decode b_Mo_image 35 = .ok (.iconst 1, 1) := by decide +kernel
theorem d_Mo_image_36 : decode b_Mo_image 36 = .ok (.bastore, 1) := by decide +kernel
theorem d_Mo_image_37 : decode b_Mo_image 37 = .ok (.iconst 1, 1) := by decide +kernel
theorem d_Mo_image_38 : decode b_Mo_image 38 = .ok (.ireturn, 1) := by decide +kernel
def f_Mo_image (h : Hp) (l0 : Nat) (l1 : Int32) : Option (Int32 × Hp) :=
  ck h 9 l0 (
    (f_Mo_in (l1.toInt64) (0 : Int64) (1 : Int64)).bind fun t1 =>
    if t1 = (0 : Int32) then (
      some ((-2 : Int32), h)
    ) else (
      (sI h 9 l0 25 ((76 : Int32) * l1)).bind fun h2 =>
      (sI h2 9 l0 26 (1 : Int32)).bind fun h3 =>
      (f_Mo_passAll h3 l0).bind fun h4 =>
      (gR h4 9 l0 24).bind fun t5 =>
      (sZ h4 t5 l1 (1 : Int32)).bind fun h6 =>
      some ((1 : Int32), h6)
    )
  )
theorem o_Mo_image {h : Hp} {l0 : Nat} {l1 : Int32} {r : (Int32 × Hp)} (hM : f_Mo_image h l0 l1 = some r) : isO h 9 l0 = true := by
  unfold f_Mo_image at hM
  exact (ck_some hM).1
set_option maxHeartbeats 4000000 in
set_option maxRecDepth 100000 in
theorem t_Mo_image {h : Hp} {l0 : Nat} {l1 : Int32} {r : (Int32 × Hp)} (C : Cx base D cI cZ b_Mo_image 2 "MovedFoldersModel" "image" (some .int) p s m args meth c) (hM : f_Mo_image h l0 l1 = some r) (H : Heap) (locs : List Loc) (ls : Array Slot) (hS : RS base D cI cZ s H locs h) (hl : lv_has ls 2 [(0, .ref (base + l0)), (1, .int l1)]) : Wg l base D cI cZ 2 43 0 0 r.2 (some (.int r.1)) p e s m args below meth c H locs 0 0 (F0 m 0 ls []) := by
  have hx := C.1
  have hb := C.2.1
  unfold f_Mo_image at hM
  replace hM := (ck_some hM).2
  refine lv_iload_n hx hb d_Mo_image_0 rfl (lv_at hl 1 rfl) ?_
  refine lv_i2l (v := (l1.toInt64)) hx hb d_Mo_image_1 rfl ?_
  refine lv_lconst (v := (0 : Int64)) hx hb d_Mo_image_2 (by decide) ?_
  refine lv_lconst (v := (1 : Int64)) hx hb d_Mo_image_3 (by decide) ?_
  obtain ⟨t1, et1, hM⟩ := bS hM
  refine r_callSi (x := t1) C hS cs_Mo_65 (c_Mo_in l base D cI cZ h (l1.toInt64) (0 : Int64) (1 : Int64) et1) (rest := []) rfl hl.1 rfl (Nat.le_of_ble_eq_true rfl) ⟨(Nat.le_of_ble_eq_true rfl), (Nat.le_of_ble_eq_true rfl)⟩ ⟨(Nat.le_of_ble_eq_true rfl), (Nat.le_of_ble_eq_true rfl)⟩ d_Mo_image_4 (fun H locs hS => ?_)
  refine lv_if_ne (tgt := 13) hx hb d_Mo_image_7 (by decide) (fun c7_1 => ?_) (fun c7_1 => ?_)
  · rw [if_neg c7_1] at hM
    refine lv_aload_n hx hb d_Mo_image_13 rfl (lv_at hl 0 rfl) ?_
    refine lv_bipush (v := (76 : Int32)) hx hb d_Mo_image_14 (by decide) ?_
    refine lv_iload_n hx hb d_Mo_image_16 rfl (lv_at hl 1 rfl) ?_
    refine lv_imul hx hb d_Mo_image_17 ?_
    obtain ⟨h2, eh2, hM⟩ := bS hM
    refine r_putI C hS fp_Mo_286 eh2 d_Mo_image_18 (fun H locs hS => ?_)
    refine lv_aload_n hx hb d_Mo_image_21 rfl (lv_at hl 0 rfl) ?_
    refine lv_iconst (v := (1 : Int32)) hx hb d_Mo_image_22 (by decide) ?_
    obtain ⟨h3, eh3, hM⟩ := bS hM
    refine r_putZ C hS fp_Mo_282 eh3 rfl rfl d_Mo_image_23 (fun H locs hS => ?_)
    refine lv_aload_n hx hb d_Mo_image_26 rfl (lv_at hl 0 rfl) ?_
    obtain ⟨h4, eh4, hM⟩ := bS hM
    refine r_callVv C hS cv_Mo_293 (c_Mo_passAll l base D cI cZ h3 l0 eh4) (o_Mo_passAll eh4) (rest := []) rfl hl.1 rfl (Nat.le_of_ble_eq_true rfl) ⟨(Nat.le_of_ble_eq_true rfl), (Nat.le_of_ble_eq_true rfl)⟩ ⟨(Nat.le_of_ble_eq_true rfl), (Nat.le_of_ble_eq_true rfl)⟩ d_Mo_image_27 (fun H locs hS => ?_)
    refine lv_aload_n hx hb d_Mo_image_30 rfl (lv_at hl 0 rfl) ?_
    obtain ⟨t5, et5, hM⟩ := bS hM
    refine r_getR C hS fl_Mo_60 et5 d_Mo_image_31 ?_
    refine lv_iload_n hx hb d_Mo_image_34 rfl (lv_at hl 1 rfl) ?_
    refine lv_iconst (v := (1 : Int32)) hx hb d_Mo_image_35 (by decide) ?_
    obtain ⟨h6, eh6, hM⟩ := bS hM
    refine r_zast C hS eh6 d_Mo_image_36 (fun H locs hS => ?_)
    refine lv_iconst (v := (1 : Int32)) hx hb d_Mo_image_37 (by decide) ?_
    obtain rfl := Option.some.inj hM
    exact r_iret C hS d_Mo_image_38
  · rw [if_pos c7_1] at hM
    refine lv_bipush (v := (-2 : Int32)) hx hb d_Mo_image_10 (by decide) ?_
    obtain rfl := Option.some.inj hM
    exact r_iret C hS d_Mo_image_12
theorem c_Mo_image (l : Launch) (base : Nat) (D : va_G) (cI cZ : ClassId) (h : Hp) (l0 : Nat) (l1 : Int32) {r : (Int32 × Hp)} (hM : f_Mo_image h l0 l1 = some r) : Ct l base D cI cZ y_Mo_image b_Mo_image 2 (some .int) 2 43 0 0 h [.ref (base + l0), .int l1] r.2 (some (.int r.1)) :=
  ct_of (by decide) (Nat.le_of_ble_eq_true rfl) (fun p e s m below meth c ls C hS hl => t_Mo_image C hM _ _ _ hS hl)
theorem d_Mo_restore_0 : decode b_Mo_restore 0 = .ok (.iload_n 1, 1) := by decide +kernel
theorem d_Mo_restore_1 : decode b_Mo_restore 1 = .ok (.i2l, 1) := by decide +kernel
theorem d_Mo_restore_2 : decode b_Mo_restore 2 = .ok (.lconst 0, 1) := by decide +kernel
theorem d_Mo_restore_3 : decode b_Mo_restore 3 = .ok (.lconst 1, 1) := by decide +kernel
theorem d_Mo_restore_4 : decode b_Mo_restore 4 = .ok (.invokestatic 65, 3) := by decide +kernel
theorem d_Mo_restore_7 : decode b_Mo_restore 7 = .ok (.ifCond .ne 6, 3) := by decide +kernel
theorem d_Mo_restore_10 : decode b_Mo_restore 10 = .ok (.bipush (-2), 2) := by decide +kernel
theorem d_Mo_restore_12 : decode b_Mo_restore 12 = .ok (.ireturn, 1) := by decide +kernel
theorem d_Mo_restore_13 : decode b_Mo_restore 13 = .ok (.aload_n 0, 1) := by decide +kernel
theorem d_Mo_restore_14 : decode b_Mo_restore 14 = .ok (.getfield 60, 3) := by decide +kernel
theorem d_Mo_restore_17 : decode b_Mo_restore 17 = .ok (.iload_n 1, 1) := by decide +kernel
theorem d_Mo_restore_18 : decode b_Mo_restore 18 = .ok (.baload, 1) := by decide +kernel
theorem d_Mo_restore_19 : decode b_Mo_restore 19 = .ok (.ifCond .ne 6, 3) := by decide +kernel
theorem d_Mo_restore_22 : decode b_Mo_restore 22 = .ok (.bipush (-3), 2) := by decide +kernel
theorem d_Mo_restore_24 : decode b_Mo_restore 24 = .ok (.ireturn, 1) := by decide +kernel
theorem d_Mo_restore_25 : decode b_Mo_restore 25 = .ok (.aload_n 0, 1) := by decide +kernel
theorem d_Mo_restore_26 : decode b_Mo_restore 26 = .ok (.bipush 76, 2) := by decide +kernel
theorem d_Mo_restore_28 : decode b_Mo_restore 28 = .ok (.iload_n 1, 1) := by decide +kernel
theorem d_Mo_restore_29 : decode b_Mo_restore 29 = .ok (.imul, 1) := by decide +kernel
theorem d_Mo_restore_30 : decode b_Mo_restore 30 = .ok (.putfield 286, 3) := by decide +kernel
theorem d_Mo_restore_33 : decode b_Mo_restore 33 = .ok (.aload_n 0, 1) := by decide +kernel
theorem d_Mo_restore_34 : decode b_Mo_restore 34 = .ok (.iconst 0, 1) := by decide +kernel
theorem d_Mo_restore_35 : decode b_Mo_restore 35 = .ok (.putfield 282, 3) := by decide +kernel
theorem d_Mo_restore_38 : decode b_Mo_restore 38 = .ok (.aload_n 0, 1) := by decide +kernel
theorem d_Mo_restore_39 : decode b_Mo_restore 39 = .ok (.invokevirtual 293, 3) := by decide +kernel
theorem d_Mo_restore_42 : decode b_Mo_restore 42 = .ok (.iconst 1, 1) := by decide +kernel
theorem d_Mo_restore_43 : decode b_Mo_restore 43 = .ok (.ireturn, 1) := by decide +kernel
def f_Mo_restore (h : Hp) (l0 : Nat) (l1 : Int32) : Option (Int32 × Hp) :=
  ck h 9 l0 (
    (f_Mo_in (l1.toInt64) (0 : Int64) (1 : Int64)).bind fun t1 =>
    if t1 = (0 : Int32) then (
      some ((-2 : Int32), h)
    ) else (
      (gR h 9 l0 24).bind fun t2 =>
      (gA h true t2 l1).bind fun t3 =>
      if t3 = (0 : Int32) then (
        some ((-3 : Int32), h)
      ) else (
        (sI h 9 l0 25 ((76 : Int32) * l1)).bind fun h4 =>
        (sI h4 9 l0 26 (0 : Int32)).bind fun h5 =>
        (f_Mo_passAll h5 l0).bind fun h6 =>
        some ((1 : Int32), h6)
      )
    )
  )
theorem o_Mo_restore {h : Hp} {l0 : Nat} {l1 : Int32} {r : (Int32 × Hp)} (hM : f_Mo_restore h l0 l1 = some r) : isO h 9 l0 = true := by
  unfold f_Mo_restore at hM
  exact (ck_some hM).1
set_option maxHeartbeats 4000000 in
set_option maxRecDepth 100000 in
theorem t_Mo_restore {h : Hp} {l0 : Nat} {l1 : Int32} {r : (Int32 × Hp)} (C : Cx base D cI cZ b_Mo_restore 2 "MovedFoldersModel" "restore" (some .int) p s m args meth c) (hM : f_Mo_restore h l0 l1 = some r) (H : Heap) (locs : List Loc) (ls : Array Slot) (hS : RS base D cI cZ s H locs h) (hl : lv_has ls 2 [(0, .ref (base + l0)), (1, .int l1)]) : Wg l base D cI cZ 2 43 0 0 r.2 (some (.int r.1)) p e s m args below meth c H locs 0 0 (F0 m 0 ls []) := by
  have hx := C.1
  have hb := C.2.1
  unfold f_Mo_restore at hM
  replace hM := (ck_some hM).2
  refine lv_iload_n hx hb d_Mo_restore_0 rfl (lv_at hl 1 rfl) ?_
  refine lv_i2l (v := (l1.toInt64)) hx hb d_Mo_restore_1 rfl ?_
  refine lv_lconst (v := (0 : Int64)) hx hb d_Mo_restore_2 (by decide) ?_
  refine lv_lconst (v := (1 : Int64)) hx hb d_Mo_restore_3 (by decide) ?_
  obtain ⟨t1, et1, hM⟩ := bS hM
  refine r_callSi (x := t1) C hS cs_Mo_65 (c_Mo_in l base D cI cZ h (l1.toInt64) (0 : Int64) (1 : Int64) et1) (rest := []) rfl hl.1 rfl (Nat.le_of_ble_eq_true rfl) ⟨(Nat.le_of_ble_eq_true rfl), (Nat.le_of_ble_eq_true rfl)⟩ ⟨(Nat.le_of_ble_eq_true rfl), (Nat.le_of_ble_eq_true rfl)⟩ d_Mo_restore_4 (fun H locs hS => ?_)
  refine lv_if_ne (tgt := 13) hx hb d_Mo_restore_7 (by decide) (fun c7_1 => ?_) (fun c7_1 => ?_)
  · rw [if_neg c7_1] at hM
    refine lv_aload_n hx hb d_Mo_restore_13 rfl (lv_at hl 0 rfl) ?_
    obtain ⟨t2, et2, hM⟩ := bS hM
    refine r_getR C hS fl_Mo_60 et2 d_Mo_restore_14 ?_
    refine lv_iload_n hx hb d_Mo_restore_17 rfl (lv_at hl 1 rfl) ?_
    obtain ⟨t3, et3, hM⟩ := bS hM
    refine r_zald C hS et3 d_Mo_restore_18 ?_
    refine lv_if_ne (tgt := 25) hx hb d_Mo_restore_19 (by decide) (fun c19_2 => ?_) (fun c19_2 => ?_)
    · rw [if_neg c19_2] at hM
      refine lv_aload_n hx hb d_Mo_restore_25 rfl (lv_at hl 0 rfl) ?_
      refine lv_bipush (v := (76 : Int32)) hx hb d_Mo_restore_26 (by decide) ?_
      refine lv_iload_n hx hb d_Mo_restore_28 rfl (lv_at hl 1 rfl) ?_
      refine lv_imul hx hb d_Mo_restore_29 ?_
      obtain ⟨h4, eh4, hM⟩ := bS hM
      refine r_putI C hS fp_Mo_286 eh4 d_Mo_restore_30 (fun H locs hS => ?_)
      refine lv_aload_n hx hb d_Mo_restore_33 rfl (lv_at hl 0 rfl) ?_
      refine lv_iconst (v := (0 : Int32)) hx hb d_Mo_restore_34 (by decide) ?_
      obtain ⟨h5, eh5, hM⟩ := bS hM
      refine r_putZ C hS fp_Mo_282 eh5 rfl rfl d_Mo_restore_35 (fun H locs hS => ?_)
      refine lv_aload_n hx hb d_Mo_restore_38 rfl (lv_at hl 0 rfl) ?_
      obtain ⟨h6, eh6, hM⟩ := bS hM
      refine r_callVv C hS cv_Mo_293 (c_Mo_passAll l base D cI cZ h5 l0 eh6) (o_Mo_passAll eh6) (rest := []) rfl hl.1 rfl (Nat.le_of_ble_eq_true rfl) ⟨(Nat.le_of_ble_eq_true rfl), (Nat.le_of_ble_eq_true rfl)⟩ ⟨(Nat.le_of_ble_eq_true rfl), (Nat.le_of_ble_eq_true rfl)⟩ d_Mo_restore_39 (fun H locs hS => ?_)
      refine lv_iconst (v := (1 : Int32)) hx hb d_Mo_restore_42 (by decide) ?_
      obtain rfl := Option.some.inj hM
      exact r_iret C hS d_Mo_restore_43
    · rw [if_pos c19_2] at hM
      refine lv_bipush (v := (-3 : Int32)) hx hb d_Mo_restore_22 (by decide) ?_
      obtain rfl := Option.some.inj hM
      exact r_iret C hS d_Mo_restore_24
  · rw [if_pos c7_1] at hM
    refine lv_bipush (v := (-2 : Int32)) hx hb d_Mo_restore_10 (by decide) ?_
    obtain rfl := Option.some.inj hM
    exact r_iret C hS d_Mo_restore_12
theorem c_Mo_restore (l : Launch) (base : Nat) (D : va_G) (cI cZ : ClassId) (h : Hp) (l0 : Nat) (l1 : Int32) {r : (Int32 × Hp)} (hM : f_Mo_restore h l0 l1 = some r) : Ct l base D cI cZ y_Mo_restore b_Mo_restore 2 (some .int) 2 43 0 0 h [.ref (base + l0), .int l1] r.2 (some (.int r.1)) :=
  ct_of (by decide) (Nat.le_of_ble_eq_true rfl) (fun p e s m below meth c ls C hS hl => t_Mo_restore C hM _ _ _ hS hl)
theorem d_Mo_lackingOf_0 : decode b_Mo_lackingOf 0 = .ok (.iconst 0, 1) := by decide +kernel
theorem d_Mo_lackingOf_1 : decode b_Mo_lackingOf 1 = .ok (.istore 4, 2) := by decide +kernel
theorem d_Mo_lackingOf_3 : decode b_Mo_lackingOf 3 = .ok (.iconst 0, 1) := by decide +kernel
theorem d_Mo_lackingOf_4 : decode b_Mo_lackingOf 4 = .ok (.istore 5, 2) := by decide +kernel
theorem d_Mo_lackingOf_6 : decode b_Mo_lackingOf 6 = .ok (.iload 5, 2) := by decide +kernel
theorem d_Mo_lackingOf_8 : decode b_Mo_lackingOf 8 = .ok (.iload_n 3, 1) := by decide +kernel
theorem d_Mo_lackingOf_9 : decode b_Mo_lackingOf 9 = .ok (.if_icmp .ge 31, 3) := by decide +kernel
theorem d_Mo_lackingOf_12 : decode b_Mo_lackingOf 12 = .ok (.iload 4, 2) := by decide +kernel
theorem d_Mo_lackingOf_14 : decode b_Mo_lackingOf 14 = .ok (.aload_n 1, 1) := by decide +kernel
theorem d_Mo_lackingOf_15 : decode b_Mo_lackingOf 15 = .ok (.bipush 12, 2) := by decide +kernel
theorem d_Mo_lackingOf_17 : decode b_Mo_lackingOf 17 = .ok (.iload_n 2, 1) := by decide +kernel
theorem d_Mo_lackingOf_18 : decode b_Mo_lackingOf 18 = .ok (.imul, 1) := by decide +kernel
theorem d_Mo_lackingOf_19 : decode b_Mo_lackingOf 19 = .ok (.iload 5, 2) := by decide +kernel
theorem d_Mo_lackingOf_21 : decode b_Mo_lackingOf 21 = .ok (.iadd, 1) := by decide +kernel
theorem d_Mo_lackingOf_22 : decode b_Mo_lackingOf 22 = .ok (.iaload, 1) := by decide +kernel
theorem d_Mo_lackingOf_23 : decode b_Mo_lackingOf 23 = .ok (.ifCond .ge 7, 3) := by decide +kernel
theorem d_Mo_lackingOf_26 : decode b_Mo_lackingOf 26 = .ok (.iconst 1, 1) := by decide +kernel
theorem d_Mo_lackingOf_27 : decode b_Mo_lackingOf 27 = .ok (.goto 4, 3) := by decide +kernel
theorem d_Mo_lackingOf_30 : decode b_Mo_lackingOf 30 = .ok (.iconst 0, 1) := by decide +kernel
theorem d_Mo_lackingOf_31 : decode b_Mo_lackingOf 31 = .ok (.iadd, 1) := by decide +kernel
theorem d_Mo_lackingOf_32 : decode b_Mo_lackingOf 32 = .ok (.istore 4, 2) := by decide +kernel
theorem d_Mo_lackingOf_34 : decode b_Mo_lackingOf 34 = .ok (.iinc 5 1, 3) := by decide +kernel
theorem d_Mo_lackingOf_37 : decode b_Mo_lackingOf 37 = .ok (.goto (-31), 3) := by decide +kernel
theorem d_Mo_lackingOf_40 : decode b_Mo_lackingOf 40 = .ok (.iload 4, 2) := by decide +kernel
theorem d_Mo_lackingOf_42 : decode b_Mo_lackingOf 42 = .ok (.ireturn, 1) := by decide +kernel
def f_Mo_lackingOf_6 (h : Hp) (l1 : Nat) (l2 : Int32) (l3 : Int32) : Nat → Int32 → Int32 → Option Int32
  | 0, _, _ => none
  | n + 1, l4, l5 =>
    if l3 ≤ l5 then (
      some l4
    ) else (
      (gA h false l1 (((12 : Int32) * l2) + l5)).bind fun t1 =>
      f_Mo_lackingOf_6 h l1 l2 l3 n (l4 + (if (0 : Int32) ≤ t1 then ((0 : Int32)) else ((1 : Int32)))) (l5 + (1 : Int32))
    )
set_option maxHeartbeats 4000000 in
set_option maxRecDepth 100000 in
theorem t_Mo_lackingOf_6 {h : Hp} {l1 : Nat} {l2 : Int32} {l3 : Int32} {r : Int32} (C : Cx base D cI cZ b_Mo_lackingOf 6 "MovedFoldersModel" "lackingOf" (some .int) p s m args meth c)  : ∀ (n : Nat) (l4 : Int32) (l5 : Int32), f_Mo_lackingOf_6 h l1 l2 l3 n l4 l5 = some r → ∀ (H : Heap) (locs : List Loc) (ls : Array Slot), RS base D cI cZ s H locs h → lv_has ls 6 [(1, .ref (base + l1)), (2, .int l2), (3, .int l3), (4, .int l4), (5, .int l5)] → Wg l base D cI cZ 0 0 0 0 h (some (.int r)) p e s m args below meth c H locs 0 0 (F0 m 6 ls []) := by
  have hx := C.1
  have hb := C.2.1
  intro n
  induction n with
  | zero =>
    intro l4 l5 hM
    rw [f_Mo_lackingOf_6] at hM
    cases hM
  | succ n ih =>
    intro l4 l5 hM H locs ls hS hl
    rw [f_Mo_lackingOf_6] at hM
    refine lv_iload hx hb d_Mo_lackingOf_6 (lv_at hl 4 rfl) ?_
    refine lv_iload_n hx hb d_Mo_lackingOf_8 rfl (lv_at hl 2 rfl) ?_
    refine lv_icmp_ge (tgt := 40) hx hb d_Mo_lackingOf_9 (by decide) (fun c9_1 => ?_) (fun c9_1 => ?_)
    · rw [if_pos c9_1] at hM
      refine lv_iload hx hb d_Mo_lackingOf_40 (lv_at hl 3 rfl) ?_
      obtain rfl := Option.some.inj hM
      exact r_iret C hS d_Mo_lackingOf_42
    · rw [if_neg c9_1] at hM
      refine lv_iload hx hb d_Mo_lackingOf_12 (lv_at hl 3 rfl) ?_
      refine lv_aload_n hx hb d_Mo_lackingOf_14 rfl (lv_at hl 0 rfl) ?_
      refine lv_bipush (v := (12 : Int32)) hx hb d_Mo_lackingOf_15 (by decide) ?_
      refine lv_iload_n hx hb d_Mo_lackingOf_17 rfl (lv_at hl 1 rfl) ?_
      refine lv_imul hx hb d_Mo_lackingOf_18 ?_
      refine lv_iload hx hb d_Mo_lackingOf_19 (lv_at hl 4 rfl) ?_
      refine lv_iadd hx hb d_Mo_lackingOf_21 ?_
      obtain ⟨t1, et1, hM⟩ := bS hM
      refine r_iald C hS et1 d_Mo_lackingOf_22 ?_
      have kJ31_2 : ∀ (H : Heap) (locs : List Loc) (ls : Array Slot), RS base D cI cZ s H locs h → lv_has ls 6 [(1, .ref (base + l1)), (2, .int l2), (3, .int l3), (5, .int l5)] → Wg l base D cI cZ 0 0 0 0 h (some (.int r)) p e s m args below meth c H locs 0 0 (F0 m 31 ls [.int (if (0 : Int32) ≤ t1 then ((0 : Int32)) else ((1 : Int32))), .int l4]) := by
        intro H locs ls hS hl
        refine lv_iadd hx hb d_Mo_lackingOf_31 ?_
        refine lv_istore (lv' := [(4, .int (l4 + (if (0 : Int32) ≤ t1 then ((0 : Int32)) else ((1 : Int32))))), (1, .ref (base + l1)), (2, .int l2), (3, .int l3), (5, .int l5)]) hx hb d_Mo_lackingOf_32 hl (by decide) rfl (fun ls hl => ?_)
        refine lv_iinc (v := (l5 + (1 : Int32))) (lv' := [(5, .int (l5 + (1 : Int32))), (4, .int (l4 + (if (0 : Int32) ≤ t1 then ((0 : Int32)) else ((1 : Int32))))), (1, .ref (base + l1)), (2, .int l2), (3, .int l3)]) hx hb d_Mo_lackingOf_34 hl (k := 4) rfl (by rw [oi_1]) (by decide) rfl (fun ls hl => ?_)
        refine lv_goto (tgt := 6) hx hb d_Mo_lackingOf_37 (by decide) ?_
        exact ih (l4 + (if (0 : Int32) ≤ t1 then ((0 : Int32)) else ((1 : Int32)))) (l5 + (1 : Int32)) hM _ _ _ hS (lv_sub hl [2, 3, 4, 1, 0] rfl)
      refine lv_if_ge (tgt := 30) hx hb d_Mo_lackingOf_23 (by decide) (fun c23_3 => ?_) (fun c23_3 => ?_)
      · rw [if_pos c23_3] at kJ31_2
        refine lv_iconst (v := (0 : Int32)) hx hb d_Mo_lackingOf_30 (by decide) ?_
        exact kJ31_2 _ _ _ hS (lv_sub hl [0, 1, 2, 4] rfl)
      · rw [if_neg c23_3] at kJ31_2
        refine lv_iconst (v := (1 : Int32)) hx hb d_Mo_lackingOf_26 (by decide) ?_
        refine lv_goto (tgt := 31) hx hb d_Mo_lackingOf_27 (by decide) ?_
        exact kJ31_2 _ _ _ hS (lv_sub hl [0, 1, 2, 4] rfl)
def f_Mo_lackingOf (h : Hp) (l0 : Nat) (l1 : Nat) (l2 : Int32) (l3 : Int32) : Option Int32 :=
  ck h 9 l0 (
    f_Mo_lackingOf_6 h l1 l2 l3 FU (0 : Int32) (0 : Int32)
  )
theorem o_Mo_lackingOf {h : Hp} {l0 : Nat} {l1 : Nat} {l2 : Int32} {l3 : Int32} {r : Int32} (hM : f_Mo_lackingOf h l0 l1 l2 l3 = some r) : isO h 9 l0 = true := by
  unfold f_Mo_lackingOf at hM
  exact (ck_some hM).1
set_option maxHeartbeats 4000000 in
set_option maxRecDepth 100000 in
theorem t_Mo_lackingOf {h : Hp} {l0 : Nat} {l1 : Nat} {l2 : Int32} {l3 : Int32} {r : Int32} (C : Cx base D cI cZ b_Mo_lackingOf 6 "MovedFoldersModel" "lackingOf" (some .int) p s m args meth c) (hM : f_Mo_lackingOf h l0 l1 l2 l3 = some r) (H : Heap) (locs : List Loc) (ls : Array Slot) (hS : RS base D cI cZ s H locs h) (hl : lv_has ls 6 [(0, .ref (base + l0)), (1, .ref (base + l1)), (2, .int l2), (3, .int l3)]) : Wg l base D cI cZ 0 0 0 0 h (some (.int r)) p e s m args below meth c H locs 0 0 (F0 m 0 ls []) := by
  have hx := C.1
  have hb := C.2.1
  unfold f_Mo_lackingOf at hM
  replace hM := (ck_some hM).2
  refine lv_iconst (v := (0 : Int32)) hx hb d_Mo_lackingOf_0 (by decide) ?_
  refine lv_istore (lv' := [(4, .int (0 : Int32)), (0, .ref (base + l0)), (1, .ref (base + l1)), (2, .int l2), (3, .int l3)]) hx hb d_Mo_lackingOf_1 hl (by decide) rfl (fun ls hl => ?_)
  refine lv_iconst (v := (0 : Int32)) hx hb d_Mo_lackingOf_3 (by decide) ?_
  refine lv_istore (lv' := [(5, .int (0 : Int32)), (4, .int (0 : Int32)), (0, .ref (base + l0)), (1, .ref (base + l1)), (2, .int l2), (3, .int l3)]) hx hb d_Mo_lackingOf_4 hl (by decide) rfl (fun ls hl => ?_)
  exact t_Mo_lackingOf_6  C  FU (0 : Int32) (0 : Int32) hM _ _ _ hS (lv_sub hl [3, 4, 5, 1, 0] rfl)
theorem c_Mo_lackingOf (l : Launch) (base : Nat) (D : va_G) (cI cZ : ClassId) (h : Hp) (l0 : Nat) (l1 : Nat) (l2 : Int32) (l3 : Int32) {r : Int32} (hM : f_Mo_lackingOf h l0 l1 l2 l3 = some r) : Ct l base D cI cZ y_Mo_lackingOf b_Mo_lackingOf 6 (some .int) 0 0 0 0 h [.ref (base + l0), .ref (base + l1), .int l2, .int l3] h (some (.int r)) :=
  ct_of (by decide) (Nat.le_of_ble_eq_true rfl) (fun p e s m below meth c ls C hS hl => t_Mo_lackingOf C hM _ _ _ hS hl)
theorem d_Mo_movedMany_0 : decode b_Mo_movedMany 0 = .ok (.iconst 0, 1) := by decide +kernel
theorem d_Mo_movedMany_1 : decode b_Mo_movedMany 1 = .ok (.istore_n 2, 1) := by decide +kernel
theorem d_Mo_movedMany_2 : decode b_Mo_movedMany 2 = .ok (.iconst 0, 1) := by decide +kernel
theorem d_Mo_movedMany_3 : decode b_Mo_movedMany 3 = .ok (.istore_n 3, 1) := by decide +kernel
theorem d_Mo_movedMany_4 : decode b_Mo_movedMany 4 = .ok (.iload_n 3, 1) := by decide +kernel
theorem d_Mo_movedMany_5 : decode b_Mo_movedMany 5 = .ok (.sipush 445, 3) := by decide +kernel
theorem d_Mo_movedMany_8 : decode b_Mo_movedMany 8 = .ok (.if_icmp .ge 32, 3) := by decide +kernel
theorem d_Mo_movedMany_11 : decode b_Mo_movedMany 11 = .ok (.iload_n 2, 1) := by decide +kernel
theorem d_Mo_movedMany_12 : decode b_Mo_movedMany 12 = .ok (.aload_n 0, 1) := by decide +kernel
theorem d_Mo_movedMany_13 : decode b_Mo_movedMany 13 = .ok (.getfield 35, 3) := by decide +kernel
theorem d_Mo_movedMany_16 : decode b_Mo_movedMany 16 = .ok (.sipush 445, 3) := by decide +kernel
theorem d_Mo_movedMany_19 : decode b_Mo_movedMany 19 = .ok (.iload_n 1, 1) := by decide +kernel
theorem d_Mo_movedMany_20 : decode b_Mo_movedMany 20 = .ok (.imul, 1) := by decide +kernel
theorem d_Mo_movedMany_21 : decode b_Mo_movedMany 21 = .ok (.iload_n 3, 1) := by decide +kernel
theorem d_Mo_movedMany_22 : decode b_Mo_movedMany 22 = .ok (.iadd, 1) := by decide +kernel
theorem d_Mo_movedMany_23 : decode b_Mo_movedMany 23 = .ok (.iaload, 1) := by decide +kernel
theorem d_Mo_movedMany_24 : decode b_Mo_movedMany 24 = .ok (.ifCond .lt 7, 3) := by decide +kernel
theorem d_Mo_movedMany_27 : decode b_Mo_movedMany 27 = .ok (.iconst 1, 1) := by decide +kernel
theorem d_Mo_movedMany_28 : decode b_Mo_movedMany 28 = .ok (.goto 4, 3) := by decide +kernel
theorem d_Mo_movedMany_31 : decode b_Mo_movedMany 31 = .ok (.iconst 0, 1) := by decide +kernel
theorem d_Mo_movedMany_32 : decode b_Mo_movedMany 32 = .ok (.iadd, 1) := by decide +kernel
theorem d_Mo_movedMany_33 : decode b_Mo_movedMany 33 = .ok (.istore_n 2, 1) := by decide +kernel
theorem d_Mo_movedMany_34 : decode b_Mo_movedMany 34 = .ok (.iinc 3 1, 3) := by decide +kernel
theorem d_Mo_movedMany_37 : decode b_Mo_movedMany 37 = .ok (.goto (-33), 3) := by decide +kernel
theorem d_Mo_movedMany_40 : decode b_Mo_movedMany 40 = .ok (.iload_n 2, 1) := by decide +kernel
theorem d_Mo_movedMany_41 : decode b_Mo_movedMany 41 = .ok (.ireturn, 1) := by decide +kernel
def f_Mo_movedMany_4 (h : Hp) (l0 : Nat) (l1 : Int32) : Nat → Int32 → Int32 → Option Int32
  | 0, _, _ => none
  | n + 1, l2, l3 =>
    if (445 : Int32) ≤ l3 then (
      some l2
    ) else (
      (gR h 9 l0 14).bind fun t1 =>
      (gA h false t1 (((445 : Int32) * l1) + l3)).bind fun t2 =>
      f_Mo_movedMany_4 h l0 l1 n (l2 + (if t2 < (0 : Int32) then ((0 : Int32)) else ((1 : Int32)))) (l3 + (1 : Int32))
    )
set_option maxHeartbeats 4000000 in
set_option maxRecDepth 100000 in
theorem t_Mo_movedMany_4 {h : Hp} {l0 : Nat} {l1 : Int32} {r : Int32} (C : Cx base D cI cZ b_Mo_movedMany 4 "MovedFoldersModel" "movedMany" (some .int) p s m args meth c)  : ∀ (n : Nat) (l2 : Int32) (l3 : Int32), f_Mo_movedMany_4 h l0 l1 n l2 l3 = some r → ∀ (H : Heap) (locs : List Loc) (ls : Array Slot), RS base D cI cZ s H locs h → lv_has ls 4 [(0, .ref (base + l0)), (1, .int l1), (2, .int l2), (3, .int l3)] → Wg l base D cI cZ 0 0 0 0 h (some (.int r)) p e s m args below meth c H locs 0 0 (F0 m 4 ls []) := by
  have hx := C.1
  have hb := C.2.1
  intro n
  induction n with
  | zero =>
    intro l2 l3 hM
    rw [f_Mo_movedMany_4] at hM
    cases hM
  | succ n ih =>
    intro l2 l3 hM H locs ls hS hl
    rw [f_Mo_movedMany_4] at hM
    refine lv_iload_n hx hb d_Mo_movedMany_4 rfl (lv_at hl 3 rfl) ?_
    refine lv_sipush (v := (445 : Int32)) hx hb d_Mo_movedMany_5 (by decide) ?_
    refine lv_icmp_ge (tgt := 40) hx hb d_Mo_movedMany_8 (by decide) (fun c8_1 => ?_) (fun c8_1 => ?_)
    · rw [if_pos c8_1] at hM
      refine lv_iload_n hx hb d_Mo_movedMany_40 rfl (lv_at hl 2 rfl) ?_
      obtain rfl := Option.some.inj hM
      exact r_iret C hS d_Mo_movedMany_41
    · rw [if_neg c8_1] at hM
      refine lv_iload_n hx hb d_Mo_movedMany_11 rfl (lv_at hl 2 rfl) ?_
      refine lv_aload_n hx hb d_Mo_movedMany_12 rfl (lv_at hl 0 rfl) ?_
      obtain ⟨t1, et1, hM⟩ := bS hM
      refine r_getR C hS fl_Mo_35 et1 d_Mo_movedMany_13 ?_
      refine lv_sipush (v := (445 : Int32)) hx hb d_Mo_movedMany_16 (by decide) ?_
      refine lv_iload_n hx hb d_Mo_movedMany_19 rfl (lv_at hl 1 rfl) ?_
      refine lv_imul hx hb d_Mo_movedMany_20 ?_
      refine lv_iload_n hx hb d_Mo_movedMany_21 rfl (lv_at hl 3 rfl) ?_
      refine lv_iadd hx hb d_Mo_movedMany_22 ?_
      obtain ⟨t2, et2, hM⟩ := bS hM
      refine r_iald C hS et2 d_Mo_movedMany_23 ?_
      have kJ32_2 : ∀ (H : Heap) (locs : List Loc) (ls : Array Slot), RS base D cI cZ s H locs h → lv_has ls 4 [(0, .ref (base + l0)), (1, .int l1), (3, .int l3)] → Wg l base D cI cZ 0 0 0 0 h (some (.int r)) p e s m args below meth c H locs 0 0 (F0 m 32 ls [.int (if t2 < (0 : Int32) then ((0 : Int32)) else ((1 : Int32))), .int l2]) := by
        intro H locs ls hS hl
        refine lv_iadd hx hb d_Mo_movedMany_32 ?_
        refine lv_istore_n (lv' := [(2, .int (l2 + (if t2 < (0 : Int32) then ((0 : Int32)) else ((1 : Int32))))), (0, .ref (base + l0)), (1, .int l1), (3, .int l3)]) hx hb d_Mo_movedMany_33 rfl hl (by decide) rfl (fun ls hl => ?_)
        refine lv_iinc (v := (l3 + (1 : Int32))) (lv' := [(3, .int (l3 + (1 : Int32))), (2, .int (l2 + (if t2 < (0 : Int32) then ((0 : Int32)) else ((1 : Int32))))), (0, .ref (base + l0)), (1, .int l1)]) hx hb d_Mo_movedMany_34 hl (k := 3) rfl (by rw [oi_1]) (by decide) rfl (fun ls hl => ?_)
        refine lv_goto (tgt := 4) hx hb d_Mo_movedMany_37 (by decide) ?_
        exact ih (l2 + (if t2 < (0 : Int32) then ((0 : Int32)) else ((1 : Int32)))) (l3 + (1 : Int32)) hM _ _ _ hS (lv_sub hl [2, 3, 1, 0] rfl)
      refine lv_if_lt (tgt := 31) hx hb d_Mo_movedMany_24 (by decide) (fun c24_3 => ?_) (fun c24_3 => ?_)
      · rw [if_pos c24_3] at kJ32_2
        refine lv_iconst (v := (0 : Int32)) hx hb d_Mo_movedMany_31 (by decide) ?_
        exact kJ32_2 _ _ _ hS (lv_sub hl [0, 1, 3] rfl)
      · rw [if_neg c24_3] at kJ32_2
        refine lv_iconst (v := (1 : Int32)) hx hb d_Mo_movedMany_27 (by decide) ?_
        refine lv_goto (tgt := 32) hx hb d_Mo_movedMany_28 (by decide) ?_
        exact kJ32_2 _ _ _ hS (lv_sub hl [0, 1, 3] rfl)
def f_Mo_movedMany (h : Hp) (l0 : Nat) (l1 : Int32) : Option Int32 :=
  ck h 9 l0 (
    f_Mo_movedMany_4 h l0 l1 FU (0 : Int32) (0 : Int32)
  )
theorem o_Mo_movedMany {h : Hp} {l0 : Nat} {l1 : Int32} {r : Int32} (hM : f_Mo_movedMany h l0 l1 = some r) : isO h 9 l0 = true := by
  unfold f_Mo_movedMany at hM
  exact (ck_some hM).1
set_option maxHeartbeats 4000000 in
set_option maxRecDepth 100000 in
theorem t_Mo_movedMany {h : Hp} {l0 : Nat} {l1 : Int32} {r : Int32} (C : Cx base D cI cZ b_Mo_movedMany 4 "MovedFoldersModel" "movedMany" (some .int) p s m args meth c) (hM : f_Mo_movedMany h l0 l1 = some r) (H : Heap) (locs : List Loc) (ls : Array Slot) (hS : RS base D cI cZ s H locs h) (hl : lv_has ls 4 [(0, .ref (base + l0)), (1, .int l1)]) : Wg l base D cI cZ 0 0 0 0 h (some (.int r)) p e s m args below meth c H locs 0 0 (F0 m 0 ls []) := by
  have hx := C.1
  have hb := C.2.1
  unfold f_Mo_movedMany at hM
  replace hM := (ck_some hM).2
  refine lv_iconst (v := (0 : Int32)) hx hb d_Mo_movedMany_0 (by decide) ?_
  refine lv_istore_n (lv' := [(2, .int (0 : Int32)), (0, .ref (base + l0)), (1, .int l1)]) hx hb d_Mo_movedMany_1 rfl hl (by decide) rfl (fun ls hl => ?_)
  refine lv_iconst (v := (0 : Int32)) hx hb d_Mo_movedMany_2 (by decide) ?_
  refine lv_istore_n (lv' := [(3, .int (0 : Int32)), (2, .int (0 : Int32)), (0, .ref (base + l0)), (1, .int l1)]) hx hb d_Mo_movedMany_3 rfl hl (by decide) rfl (fun ls hl => ?_)
  exact t_Mo_movedMany_4  C  FU (0 : Int32) (0 : Int32) hM _ _ _ hS (lv_sub hl [2, 3, 1, 0] rfl)
theorem c_Mo_movedMany (l : Launch) (base : Nat) (D : va_G) (cI cZ : ClassId) (h : Hp) (l0 : Nat) (l1 : Int32) {r : Int32} (hM : f_Mo_movedMany h l0 l1 = some r) : Ct l base D cI cZ y_Mo_movedMany b_Mo_movedMany 4 (some .int) 0 0 0 0 h [.ref (base + l0), .int l1] h (some (.int r)) :=
  ct_of (by decide) (Nat.le_of_ble_eq_true rfl) (fun p e s m below meth c ls C hS hl => t_Mo_movedMany C hM _ _ _ hS hl)
theorem d_Mo_toldOfSide_0 : decode b_Mo_toldOfSide 0 = .ok (.aload_n 0, 1) := by decide +kernel
theorem d_Mo_toldOfSide_1 : decode b_Mo_toldOfSide 1 = .ok (.iload_n 1, 1) := by decide +kernel
theorem d_Mo_toldOfSide_2 : decode b_Mo_toldOfSide 2 = .ok (.invokevirtual 192, 3) := by decide +kernel
theorem d_Mo_toldOfSide_5 : decode b_Mo_toldOfSide 5 = .ok (.iload_n 2, 1) := by decide +kernel
theorem d_Mo_toldOfSide_6 : decode b_Mo_toldOfSide 6 = .ok (.iconst 2, 1) := by decide +kernel
theorem d_Mo_toldOfSide_7 : decode b_Mo_toldOfSide 7 = .ok (.if_icmp .ne 21, 3) := by decide +kernel
theorem d_Mo_toldOfSide_10 : decode b_Mo_toldOfSide 10 = .ok (.aload_n 0, 1) := by decide +kernel
theorem d_Mo_toldOfSide_11 : decode b_Mo_toldOfSide 11 = .ok (.aload_n 0, 1) := by decide +kernel
theorem d_Mo_toldOfSide_12 : decode b_Mo_toldOfSide 12 = .ok (.getfield 26, 3) := by decide +kernel
theorem d_Mo_toldOfSide_15 : decode b_Mo_toldOfSide 15 = .ok (.iload_n 1, 1) := by decide +kernel
theorem d_Mo_toldOfSide_16 : decode b_Mo_toldOfSide 16 = .ok (.aload_n 0, 1) := by decide +kernel
theorem d_Mo_toldOfSide_17 : decode b_Mo_toldOfSide 17 = .ok (.getfield 16, 3) := by decide +kernel
theorem d_Mo_toldOfSide_20 : decode b_Mo_toldOfSide 20 = .ok (.iconst 0, 1) := by decide +kernel
theorem d_Mo_toldOfSide_21 : decode b_Mo_toldOfSide 21 = .ok (.iaload, 1) := by decide +kernel
theorem d_Mo_toldOfSide_22 : decode b_Mo_toldOfSide 22 = .ok (.invokevirtual 296, 3) := by decide +kernel
theorem d_Mo_toldOfSide_25 : decode b_Mo_toldOfSide 25 = .ok (.goto 31, 3) := by decide +kernel
theorem d_Mo_toldOfSide_28 : decode b_Mo_toldOfSide 28 = .ok (.iload_n 2, 1) := by decide +kernel
theorem d_Mo_toldOfSide_29 : decode b_Mo_toldOfSide 29 = .ok (.iconst 3, 1) := by decide +kernel
theorem d_Mo_toldOfSide_30 : decode b_Mo_toldOfSide 30 = .ok (.if_icmp .ne 21, 3) := by decide +kernel
theorem d_Mo_toldOfSide_33 : decode b_Mo_toldOfSide 33 = .ok (.aload_n 0, 1) := by decide +kernel
theorem d_Mo_toldOfSide_34 : decode b_Mo_toldOfSide 34 = .ok (.aload_n 0, 1) := by decide +kernel
theorem d_Mo_toldOfSide_35 : decode b_Mo_toldOfSide 35 = .ok (.getfield 32, 3) := by decide +kernel
theorem d_Mo_toldOfSide_38 : decode b_Mo_toldOfSide 38 = .ok (.iload_n 1, 1) := by decide +kernel
theorem d_Mo_toldOfSide_39 : decode b_Mo_toldOfSide 39 = .ok (.aload_n 0, 1) := by decide +kernel
theorem d_Mo_toldOfSide_40 : decode b_Mo_toldOfSide 40 = .ok (.getfield 16, 3) := by decide +kernel
theorem d_Mo_toldOfSide_43 : decode b_Mo_toldOfSide 43 = .ok (.iload_n 1, 1) := by decide +kernel
theorem d_Mo_toldOfSide_44 : decode b_Mo_toldOfSide 44 = .ok (.iaload, 1) := by decide +kernel
theorem d_Mo_toldOfSide_45 : decode b_Mo_toldOfSide 45 = .ok (.invokevirtual 296, 3) := by decide +kernel
theorem d_Mo_toldOfSide_48 : decode b_Mo_toldOfSide 48 = .ok (.goto 8, 3) := by decide +kernel
theorem d_Mo_toldOfSide_51 : decode b_Mo_toldOfSide 51 = .ok (.aload_n 0, 1) := by decide +kernel
theorem d_Mo_toldOfSide_52 : decode b_Mo_toldOfSide 52 = .ok (.iload_n 1, 1) := by decide +kernel
theorem d_Mo_toldOfSide_53 : decode b_Mo_toldOfSide 53 = .ok (.invokevirtual 300, 3) := by decide +kernel
theorem d_Mo_toldOfSide_56 : decode b_Mo_toldOfSide 56 = .ok (.ireturn, 1) := by decide +kernel
def f_Mo_toldOfSide (h : Hp) (l0 : Nat) (l1 : Int32) (l2 : Int32) : Option (Int32 × Hp) :=
  ck h 9 l0 (
    (f_Mo_findMoves h l0 l1).bind fun h1 =>
    (
      if l2 = (2 : Int32) then (
        (gR h1 9 l0 11).bind fun t8 =>
        (gR h1 9 l0 2).bind fun t9 =>
        (gA h1 false t9 (0 : Int32)).bind fun t10 =>
        (f_Mo_lackingOf h1 l0 t8 l1 t10).bind fun t11 =>
        some t11
      ) else (
        if l2 = (3 : Int32) then (
          (gR h1 9 l0 13).bind fun t4 =>
          (gR h1 9 l0 2).bind fun t5 =>
          (gA h1 false t5 l1).bind fun t6 =>
          (f_Mo_lackingOf h1 l0 t4 l1 t6).bind fun t7 =>
          some t7
        ) else (
          (f_Mo_movedMany h1 l0 l1).bind fun t3 =>
          some t3
        )
      )
    ).bind fun t2 =>
    some (t2, h1)
  )
theorem o_Mo_toldOfSide {h : Hp} {l0 : Nat} {l1 : Int32} {l2 : Int32} {r : (Int32 × Hp)} (hM : f_Mo_toldOfSide h l0 l1 l2 = some r) : isO h 9 l0 = true := by
  unfold f_Mo_toldOfSide at hM
  exact (ck_some hM).1
set_option maxHeartbeats 4000000 in
set_option maxRecDepth 100000 in
theorem t_Mo_toldOfSide {h : Hp} {l0 : Nat} {l1 : Int32} {l2 : Int32} {r : (Int32 × Hp)} (C : Cx base D cI cZ b_Mo_toldOfSide 3 "MovedFoldersModel" "toldOfSide" (some .int) p s m args meth c) (hM : f_Mo_toldOfSide h l0 l1 l2 = some r) (H : Heap) (locs : List Loc) (ls : Array Slot) (hS : RS base D cI cZ s H locs h) (hl : lv_has ls 3 [(0, .ref (base + l0)), (1, .int l1), (2, .int l2)]) : Wg l base D cI cZ 6 146 0 0 r.2 (some (.int r.1)) p e s m args below meth c H locs 0 0 (F0 m 0 ls []) := by
  have hx := C.1
  have hb := C.2.1
  unfold f_Mo_toldOfSide at hM
  replace hM := (ck_some hM).2
  refine lv_aload_n hx hb d_Mo_toldOfSide_0 rfl (lv_at hl 0 rfl) ?_
  refine lv_iload_n hx hb d_Mo_toldOfSide_1 rfl (lv_at hl 1 rfl) ?_
  obtain ⟨h1, eh1, hM⟩ := bS hM
  refine r_callVv C hS cv_Mo_192 (c_Mo_findMoves l base D cI cZ h l0 l1 eh1) (o_Mo_findMoves eh1) (rest := []) rfl hl.1 rfl (Nat.le_of_ble_eq_true rfl) ⟨(Nat.le_of_ble_eq_true rfl), (Nat.le_of_ble_eq_true rfl)⟩ ⟨(Nat.le_of_ble_eq_true rfl), (Nat.le_of_ble_eq_true rfl)⟩ d_Mo_toldOfSide_2 (fun H locs hS => ?_)
  refine lv_iload_n hx hb d_Mo_toldOfSide_5 rfl (lv_at hl 2 rfl) ?_
  refine lv_iconst (v := (2 : Int32)) hx hb d_Mo_toldOfSide_6 (by decide) ?_
  obtain ⟨t2, et2, hM⟩ := bS hM
  have kJ56_1 : ∀ (H : Heap) (locs : List Loc) (ls : Array Slot), RS base D cI cZ s H locs h1 → lv_has ls 3 [] → Wg l base D cI cZ 6 146 0 0 r.2 (some (.int r.1)) p e s m args below meth c H locs 0 0 (F0 m 56 ls [.int t2]) := by
    intro H locs ls hS hl
    obtain rfl := Option.some.inj hM
    exact r_iret C hS d_Mo_toldOfSide_56
  refine lv_icmp_ne (tgt := 28) hx hb d_Mo_toldOfSide_7 (by decide) (fun c7_2 => ?_) (fun c7_2 => ?_)
  · rw [if_neg c7_2] at et2
    refine lv_iload_n hx hb d_Mo_toldOfSide_28 rfl (lv_at hl 2 rfl) ?_
    refine lv_iconst (v := (3 : Int32)) hx hb d_Mo_toldOfSide_29 (by decide) ?_
    refine lv_icmp_ne (tgt := 51) hx hb d_Mo_toldOfSide_30 (by decide) (fun c30_3 => ?_) (fun c30_3 => ?_)
    · rw [if_neg c30_3] at et2
      refine lv_aload_n hx hb d_Mo_toldOfSide_51 rfl (lv_at hl 0 rfl) ?_
      refine lv_iload_n hx hb d_Mo_toldOfSide_52 rfl (lv_at hl 1 rfl) ?_
      obtain ⟨t3, et3, et2⟩ := bS et2
      refine r_callVi (x := t3) C hS cv_Mo_300 (c_Mo_movedMany l base D cI cZ h1 l0 l1 et3) (o_Mo_movedMany et3) (rest := []) rfl hl.1 rfl (Nat.le_of_ble_eq_true rfl) ⟨(Nat.le_of_ble_eq_true rfl), (Nat.le_of_ble_eq_true rfl)⟩ ⟨(Nat.le_of_ble_eq_true rfl), (Nat.le_of_ble_eq_true rfl)⟩ d_Mo_toldOfSide_53 (fun H locs hS => ?_)
      obtain rfl := Option.some.inj et2
      exact kJ56_1 _ _ _ hS (lv_sub hl [] rfl)
    · rw [if_pos c30_3] at et2
      refine lv_aload_n hx hb d_Mo_toldOfSide_33 rfl (lv_at hl 0 rfl) ?_
      refine lv_aload_n hx hb d_Mo_toldOfSide_34 rfl (lv_at hl 0 rfl) ?_
      obtain ⟨t4, et4, et2⟩ := bS et2
      refine r_getR C hS fl_Mo_32 et4 d_Mo_toldOfSide_35 ?_
      refine lv_iload_n hx hb d_Mo_toldOfSide_38 rfl (lv_at hl 1 rfl) ?_
      refine lv_aload_n hx hb d_Mo_toldOfSide_39 rfl (lv_at hl 0 rfl) ?_
      obtain ⟨t5, et5, et2⟩ := bS et2
      refine r_getR C hS fl_Mo_16 et5 d_Mo_toldOfSide_40 ?_
      refine lv_iload_n hx hb d_Mo_toldOfSide_43 rfl (lv_at hl 1 rfl) ?_
      obtain ⟨t6, et6, et2⟩ := bS et2
      refine r_iald C hS et6 d_Mo_toldOfSide_44 ?_
      obtain ⟨t7, et7, et2⟩ := bS et2
      refine r_callVi (x := t7) C hS cv_Mo_296 (c_Mo_lackingOf l base D cI cZ h1 l0 t4 l1 t6 et7) (o_Mo_lackingOf et7) (rest := []) rfl hl.1 rfl (Nat.le_of_ble_eq_true rfl) ⟨(Nat.le_of_ble_eq_true rfl), (Nat.le_of_ble_eq_true rfl)⟩ ⟨(Nat.le_of_ble_eq_true rfl), (Nat.le_of_ble_eq_true rfl)⟩ d_Mo_toldOfSide_45 (fun H locs hS => ?_)
      refine lv_goto (tgt := 56) hx hb d_Mo_toldOfSide_48 (by decide) ?_
      obtain rfl := Option.some.inj et2
      exact kJ56_1 _ _ _ hS (lv_sub hl [] rfl)
  · rw [if_pos c7_2] at et2
    refine lv_aload_n hx hb d_Mo_toldOfSide_10 rfl (lv_at hl 0 rfl) ?_
    refine lv_aload_n hx hb d_Mo_toldOfSide_11 rfl (lv_at hl 0 rfl) ?_
    obtain ⟨t8, et8, et2⟩ := bS et2
    refine r_getR C hS fl_Mo_26 et8 d_Mo_toldOfSide_12 ?_
    refine lv_iload_n hx hb d_Mo_toldOfSide_15 rfl (lv_at hl 1 rfl) ?_
    refine lv_aload_n hx hb d_Mo_toldOfSide_16 rfl (lv_at hl 0 rfl) ?_
    obtain ⟨t9, et9, et2⟩ := bS et2
    refine r_getR C hS fl_Mo_16 et9 d_Mo_toldOfSide_17 ?_
    refine lv_iconst (v := (0 : Int32)) hx hb d_Mo_toldOfSide_20 (by decide) ?_
    obtain ⟨t10, et10, et2⟩ := bS et2
    refine r_iald C hS et10 d_Mo_toldOfSide_21 ?_
    obtain ⟨t11, et11, et2⟩ := bS et2
    refine r_callVi (x := t11) C hS cv_Mo_296 (c_Mo_lackingOf l base D cI cZ h1 l0 t8 l1 t10 et11) (o_Mo_lackingOf et11) (rest := []) rfl hl.1 rfl (Nat.le_of_ble_eq_true rfl) ⟨(Nat.le_of_ble_eq_true rfl), (Nat.le_of_ble_eq_true rfl)⟩ ⟨(Nat.le_of_ble_eq_true rfl), (Nat.le_of_ble_eq_true rfl)⟩ d_Mo_toldOfSide_22 (fun H locs hS => ?_)
    refine lv_goto (tgt := 56) hx hb d_Mo_toldOfSide_25 (by decide) ?_
    obtain rfl := Option.some.inj et2
    exact kJ56_1 _ _ _ hS (lv_sub hl [] rfl)
theorem c_Mo_toldOfSide (l : Launch) (base : Nat) (D : va_G) (cI cZ : ClassId) (h : Hp) (l0 : Nat) (l1 : Int32) (l2 : Int32) {r : (Int32 × Hp)} (hM : f_Mo_toldOfSide h l0 l1 l2 = some r) : Ct l base D cI cZ y_Mo_toldOfSide b_Mo_toldOfSide 3 (some .int) 6 146 0 0 h [.ref (base + l0), .int l1, .int l2] r.2 (some (.int r.1)) :=
  ct_of (by decide) (Nat.le_of_ble_eq_true rfl) (fun p e s m below meth c ls C hS hl => t_Mo_toldOfSide C hM _ _ _ hS hl)
end MM10
