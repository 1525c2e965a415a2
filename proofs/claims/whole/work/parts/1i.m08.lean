section MM8
variable {l : Launch} {base : Nat} {D : va_G} {cI cZ : ClassId} {p : Program} {e : Env} {s : State} {m : MethodId} {args : Array Value} {below : List Frame} {meth : Method} {c : Code}
theorem d_Mo_votesOf_0 : decode b_Mo_votesOf 0 = .ok (.iconst 0, 1) := by decide +kernel
theorem d_Mo_votesOf_1 : decode b_Mo_votesOf 1 = .ok (.istore 4, 2) := by decide +kernel
theorem d_Mo_votesOf_3 : decode b_Mo_votesOf 3 = .ok (.iconst 0, 1) := by decide +kernel
theorem d_Mo_votesOf_4 : decode b_Mo_votesOf 4 = .ok (.istore 5, 2) := by decide +kernel
theorem d_Mo_votesOf_6 : decode b_Mo_votesOf 6 = .ok (.iload 5, 2) := by decide +kernel
theorem d_Mo_votesOf_8 : decode b_Mo_votesOf 8 = .ok (.aload_n 0, 1) := by decide +kernel
theorem d_Mo_votesOf_9 : decode b_Mo_votesOf 9 = .ok (.getfield 16, 3) := by decide +kernel
theorem d_Mo_votesOf_12 : decode b_Mo_votesOf 12 = .ok (.iconst 0, 1) := by decide +kernel
theorem d_Mo_votesOf_13 : decode b_Mo_votesOf 13 = .ok (.iaload, 1) := by decide +kernel
theorem d_Mo_votesOf_14 : decode b_Mo_votesOf 14 = .ok (.if_icmp .ge 60, 3) := by decide +kernel
theorem d_Mo_votesOf_17 : decode b_Mo_votesOf 17 = .ok (.aload_n 0, 1) := by decide +kernel
theorem d_Mo_votesOf_18 : decode b_Mo_votesOf 18 = .ok (.getfield 26, 3) := by decide +kernel
theorem d_Mo_votesOf_21 : decode b_Mo_votesOf 21 = .ok (.bipush 12, 2) := by decide +kernel
theorem d_Mo_votesOf_23 : decode b_Mo_votesOf 23 = .ok (.iload_n 1, 1) := by decide +kernel
theorem d_Mo_votesOf_24 : decode b_Mo_votesOf 24 = .ok (.imul, 1) := by decide +kernel
theorem d_Mo_votesOf_25 : decode b_Mo_votesOf 25 = .ok (.iload 5, 2) := by decide +kernel
theorem d_Mo_votesOf_27 : decode b_Mo_votesOf 27 = .ok (.iadd, 1) := by decide +kernel
theorem d_Mo_votesOf_28 : decode b_Mo_votesOf 28 = .ok (.iaload, 1) := by decide +kernel
theorem d_Mo_votesOf_29 : decode b_Mo_votesOf 29 = .ok (.istore 6, 2) := by decide +kernel
theorem d_Mo_votesOf_31 : decode b_Mo_votesOf 31 = .ok (.iload 4, 2) := by decide +kernel
theorem d_Mo_votesOf_33 : decode b_Mo_votesOf 33 = .ok (.aload_n 0, 1) := by decide +kernel
theorem d_Mo_votesOf_34 : decode b_Mo_votesOf 34 = .ok (.iconst 0, 1) := by decide +kernel
theorem d_Mo_votesOf_35 : decode b_Mo_votesOf 35 = .ok (.iload 5, 2) := by decide +kernel
theorem d_Mo_votesOf_37 : decode b_Mo_votesOf 37 = .ok (.invokevirtual 176, 3) := by decide +kernel
theorem d_Mo_votesOf_40 : decode b_Mo_votesOf 40 = .ok (.iload_n 2, 1) := by decide +kernel
theorem d_Mo_votesOf_41 : decode b_Mo_votesOf 41 = .ok (.if_icmp .ne 23, 3) := by decide +kernel
theorem d_Mo_votesOf_44 : decode b_Mo_votesOf 44 = .ok (.iload 6, 2) := by decide +kernel
theorem d_Mo_votesOf_46 : decode b_Mo_votesOf 46 = .ok (.ifCond .lt 18, 3) := by decide +kernel
theorem d_Mo_votesOf_49 : decode b_Mo_votesOf 49 = .ok (.aload_n 0, 1) := by decide +kernel
theorem d_Mo_votesOf_50 : decode b_Mo_votesOf 50 = .ok (.iload_n 1, 1) := by decide +kernel
theorem d_Mo_votesOf_51 : decode b_Mo_votesOf 51 = .ok (.iload 6, 2) := by decide +kernel
theorem d_Mo_votesOf_53 : decode b_Mo_votesOf 53 = .ok (.invokevirtual 176, 3) := by decide +kernel
theorem d_Mo_votesOf_56 : decode b_Mo_votesOf 56 = .ok (.iload_n 3, 1) := by decide +kernel
theorem d_Mo_votesOf_57 : decode b_Mo_votesOf 57 = .ok (.if_icmp .ne 7, 3) := by decide +kernel
theorem d_Mo_votesOf_60 : decode b_Mo_votesOf 60 = .ok (.iconst 1, 1) := by decide +kernel
theorem d_Mo_votesOf_61 : decode b_Mo_votesOf 61 = .ok (.goto 4, 3) := by decide +kernel
theorem d_Mo_votesOf_64 : decode b_Mo_votesOf 64 = .ok (.iconst 0, 1) := by decide +kernel
theorem d_Mo_votesOf_65 : decode b_Mo_votesOf 65 = .ok (.iadd, 1) := by decide +kernel
theorem d_Mo_votesOf_66 : decode b_Mo_votesOf 66 = .ok (.istore 4, 2) := by decide +kernel
theorem d_Mo_votesOf_68 : decode b_Mo_votesOf 68 = .ok (.iinc 5 1, 3) := by decide +kernel
theorem d_Mo_votesOf_71 : decode b_Mo_votesOf 71 = .ok (.goto (-65), 3) := by decide +kernel
theorem d_Mo_votesOf_74 : decode b_Mo_votesOf 74 = .ok (.iload 4, 2) := by decide +kernel
theorem d_Mo_votesOf_76 : decode b_Mo_votesOf 76 = .ok (.ireturn, 1) := by decide +kernel
def f_Mo_votesOf_6 (h : Hp) (l0 : Nat) (l1 : Int32) (l2 : Int32) (l3 : Int32) : Nat → Int32 → Int32 → Option Int32
  | 0, _, _ => none
  | n + 1, l4, l5 =>
    (gR h 9 l0 2).bind fun t1 =>
    (gA h false t1 (0 : Int32)).bind fun t2 =>
    if t2 ≤ l5 then (
      some l4
    ) else (
      (gR h 9 l0 11).bind fun t3 =>
      (gA h false t3 (((12 : Int32) * l1) + l5)).bind fun t4 =>
      (f_Mo_folderAt h l0 (0 : Int32) l5).bind fun t5 =>
      (
        if t5 = l2 then (
          if t4 < (0 : Int32) then (
            some (0 : Int32)
          ) else (
            (f_Mo_folderAt h l0 l1 t4).bind fun t7 =>
            if t7 = l3 then (
              some (1 : Int32)
            ) else (
              some (0 : Int32)
            )
          )
        ) else (
          some (0 : Int32)
        )
      ).bind fun t6 =>
      f_Mo_votesOf_6 h l0 l1 l2 l3 n (l4 + t6) (l5 + (1 : Int32))
    )
set_option maxHeartbeats 4000000 in
set_option maxRecDepth 100000 in
theorem t_Mo_votesOf_6 {h : Hp} {l0 : Nat} {l1 : Int32} {l2 : Int32} {l3 : Int32} {r : Int32} (C : Cx base D cI cZ b_Mo_votesOf 7 "MovedFoldersModel" "votesOf" (some .int) p s m args meth c)  : ∀ (n : Nat) (l4 : Int32) (l5 : Int32), f_Mo_votesOf_6 h l0 l1 l2 l3 n l4 l5 = some r → ∀ (H : Heap) (locs : List Loc) (ls : Array Slot), RS base D cI cZ s H locs h → lv_has ls 7 [(0, .ref (base + l0)), (1, .int l1), (2, .int l2), (3, .int l3), (4, .int l4), (5, .int l5)] → Wg l base D cI cZ 1 22 0 0 h (some (.int r)) p e s m args below meth c H locs 0 0 (F0 m 6 ls []) := by
  have hx := C.1
  have hb := C.2.1
  intro n
  induction n with
  | zero =>
    intro l4 l5 hM
    rw [f_Mo_votesOf_6] at hM
    cases hM
  | succ n ih =>
    intro l4 l5 hM H locs ls hS hl
    rw [f_Mo_votesOf_6] at hM
    refine lv_iload hx hb d_Mo_votesOf_6 (lv_at hl 5 rfl) ?_
    refine lv_aload_n hx hb d_Mo_votesOf_8 rfl (lv_at hl 0 rfl) ?_
    obtain ⟨t1, et1, hM⟩ := bS hM
    refine r_getR C hS fl_Mo_16 et1 d_Mo_votesOf_9 ?_
    refine lv_iconst (v := (0 : Int32)) hx hb d_Mo_votesOf_12 (by decide) ?_
    obtain ⟨t2, et2, hM⟩ := bS hM
    refine r_iald C hS et2 d_Mo_votesOf_13 ?_
    refine lv_icmp_ge (tgt := 74) hx hb d_Mo_votesOf_14 (by decide) (fun c14_1 => ?_) (fun c14_1 => ?_)
    · rw [if_pos c14_1] at hM
      refine lv_iload hx hb d_Mo_votesOf_74 (lv_at hl 4 rfl) ?_
      obtain rfl := Option.some.inj hM
      exact r_iret C hS d_Mo_votesOf_76
    · rw [if_neg c14_1] at hM
      refine lv_aload_n hx hb d_Mo_votesOf_17 rfl (lv_at hl 0 rfl) ?_
      obtain ⟨t3, et3, hM⟩ := bS hM
      refine r_getR C hS fl_Mo_26 et3 d_Mo_votesOf_18 ?_
      refine lv_bipush (v := (12 : Int32)) hx hb d_Mo_votesOf_21 (by decide) ?_
      refine lv_iload_n hx hb d_Mo_votesOf_23 rfl (lv_at hl 1 rfl) ?_
      refine lv_imul hx hb d_Mo_votesOf_24 ?_
      refine lv_iload hx hb d_Mo_votesOf_25 (lv_at hl 5 rfl) ?_
      refine lv_iadd hx hb d_Mo_votesOf_27 ?_
      obtain ⟨t4, et4, hM⟩ := bS hM
      refine r_iald C hS et4 d_Mo_votesOf_28 ?_
      refine lv_istore (lv' := [(6, .int t4), (0, .ref (base + l0)), (1, .int l1), (2, .int l2), (3, .int l3), (4, .int l4), (5, .int l5)]) hx hb d_Mo_votesOf_29 hl (by decide) rfl (fun ls hl => ?_)
      refine lv_iload hx hb d_Mo_votesOf_31 (lv_at hl 5 rfl) ?_
      refine lv_aload_n hx hb d_Mo_votesOf_33 rfl (lv_at hl 1 rfl) ?_
      refine lv_iconst (v := (0 : Int32)) hx hb d_Mo_votesOf_34 (by decide) ?_
      refine lv_iload hx hb d_Mo_votesOf_35 (lv_at hl 6 rfl) ?_
      obtain ⟨t5, et5, hM⟩ := bS hM
      refine r_callVi (x := t5) C hS cv_Mo_176 (c_Mo_folderAt l base D cI cZ h l0 (0 : Int32) l5 et5) (o_Mo_folderAt et5) (rest := [.int l4]) rfl hl.1 rfl (Nat.le_of_ble_eq_true rfl) ⟨(Nat.le_of_ble_eq_true rfl), (Nat.le_of_ble_eq_true rfl)⟩ ⟨(Nat.le_of_ble_eq_true rfl), (Nat.le_of_ble_eq_true rfl)⟩ d_Mo_votesOf_37 (fun H locs hS => ?_)
      refine lv_iload_n hx hb d_Mo_votesOf_40 rfl (lv_at hl 3 rfl) ?_
      obtain ⟨t6, et6, hM⟩ := bS hM
      have kJ65_2 : ∀ (H : Heap) (locs : List Loc) (ls : Array Slot), RS base D cI cZ s H locs h → lv_has ls 7 [(0, .ref (base + l0)), (1, .int l1), (2, .int l2), (3, .int l3), (5, .int l5)] → Wg l base D cI cZ 1 22 0 0 h (some (.int r)) p e s m args below meth c H locs 0 0 (F0 m 65 ls [.int t6, .int l4]) := by
        intro H locs ls hS hl
        refine lv_iadd hx hb d_Mo_votesOf_65 ?_
        refine lv_istore (lv' := [(4, .int (l4 + t6)), (0, .ref (base + l0)), (1, .int l1), (2, .int l2), (3, .int l3), (5, .int l5)]) hx hb d_Mo_votesOf_66 hl (by decide) rfl (fun ls hl => ?_)
        refine lv_iinc (v := (l5 + (1 : Int32))) (lv' := [(5, .int (l5 + (1 : Int32))), (4, .int (l4 + t6)), (0, .ref (base + l0)), (1, .int l1), (2, .int l2), (3, .int l3)]) hx hb d_Mo_votesOf_68 hl (k := 5) rfl (by rw [oi_1]) (by decide) rfl (fun ls hl => ?_)
        refine lv_goto (tgt := 6) hx hb d_Mo_votesOf_71 (by decide) ?_
        exact ih (l4 + t6) (l5 + (1 : Int32)) hM _ _ _ hS (lv_sub hl [2, 3, 4, 5, 1, 0] rfl)
      refine lv_icmp_ne (tgt := 64) hx hb d_Mo_votesOf_41 (by decide) (fun c41_3 => ?_) (fun c41_3 => ?_)
      · rw [if_neg c41_3] at et6
        refine lv_iconst (v := (0 : Int32)) hx hb d_Mo_votesOf_64 (by decide) ?_
        obtain rfl := Option.some.inj et6
        exact kJ65_2 _ _ _ hS (lv_sub hl [1, 2, 3, 4, 6] rfl)
      · rw [if_pos c41_3] at et6
        refine lv_iload hx hb d_Mo_votesOf_44 (lv_at hl 0 rfl) ?_
        refine lv_if_lt (tgt := 64) hx hb d_Mo_votesOf_46 (by decide) (fun c46_4 => ?_) (fun c46_4 => ?_)
        · rw [if_pos c46_4] at et6
          refine lv_iconst (v := (0 : Int32)) hx hb d_Mo_votesOf_64 (by decide) ?_
          obtain rfl := Option.some.inj et6
          exact kJ65_2 _ _ _ hS (lv_sub hl [1, 2, 3, 4, 6] rfl)
        · rw [if_neg c46_4] at et6
          refine lv_aload_n hx hb d_Mo_votesOf_49 rfl (lv_at hl 1 rfl) ?_
          refine lv_iload_n hx hb d_Mo_votesOf_50 rfl (lv_at hl 2 rfl) ?_
          refine lv_iload hx hb d_Mo_votesOf_51 (lv_at hl 0 rfl) ?_
          obtain ⟨t7, et7, et6⟩ := bS et6
          refine r_callVi (x := t7) C hS cv_Mo_176 (c_Mo_folderAt l base D cI cZ h l0 l1 t4 et7) (o_Mo_folderAt et7) (rest := [.int l4]) rfl hl.1 rfl (Nat.le_of_ble_eq_true rfl) ⟨(Nat.le_of_ble_eq_true rfl), (Nat.le_of_ble_eq_true rfl)⟩ ⟨(Nat.le_of_ble_eq_true rfl), (Nat.le_of_ble_eq_true rfl)⟩ d_Mo_votesOf_53 (fun H locs hS => ?_)
          refine lv_iload_n hx hb d_Mo_votesOf_56 rfl (lv_at hl 4 rfl) ?_
          refine lv_icmp_ne (tgt := 64) hx hb d_Mo_votesOf_57 (by decide) (fun c57_5 => ?_) (fun c57_5 => ?_)
          · rw [if_neg c57_5] at et6
            refine lv_iconst (v := (0 : Int32)) hx hb d_Mo_votesOf_64 (by decide) ?_
            obtain rfl := Option.some.inj et6
            exact kJ65_2 _ _ _ hS (lv_sub hl [1, 2, 3, 4, 6] rfl)
          · rw [if_pos c57_5] at et6
            refine lv_iconst (v := (1 : Int32)) hx hb d_Mo_votesOf_60 (by decide) ?_
            refine lv_goto (tgt := 65) hx hb d_Mo_votesOf_61 (by decide) ?_
            obtain rfl := Option.some.inj et6
            exact kJ65_2 _ _ _ hS (lv_sub hl [1, 2, 3, 4, 6] rfl)
def f_Mo_votesOf (h : Hp) (l0 : Nat) (l1 : Int32) (l2 : Int32) (l3 : Int32) : Option Int32 :=
  ck h 9 l0 (
    f_Mo_votesOf_6 h l0 l1 l2 l3 FU (0 : Int32) (0 : Int32)
  )
theorem o_Mo_votesOf {h : Hp} {l0 : Nat} {l1 : Int32} {l2 : Int32} {l3 : Int32} {r : Int32} (hM : f_Mo_votesOf h l0 l1 l2 l3 = some r) : isO h 9 l0 = true := by
  unfold f_Mo_votesOf at hM
  exact (ck_some hM).1
set_option maxHeartbeats 4000000 in
set_option maxRecDepth 100000 in
theorem t_Mo_votesOf {h : Hp} {l0 : Nat} {l1 : Int32} {l2 : Int32} {l3 : Int32} {r : Int32} (C : Cx base D cI cZ b_Mo_votesOf 7 "MovedFoldersModel" "votesOf" (some .int) p s m args meth c) (hM : f_Mo_votesOf h l0 l1 l2 l3 = some r) (H : Heap) (locs : List Loc) (ls : Array Slot) (hS : RS base D cI cZ s H locs h) (hl : lv_has ls 7 [(0, .ref (base + l0)), (1, .int l1), (2, .int l2), (3, .int l3)]) : Wg l base D cI cZ 1 22 0 0 h (some (.int r)) p e s m args below meth c H locs 0 0 (F0 m 0 ls []) := by
  have hx := C.1
  have hb := C.2.1
  unfold f_Mo_votesOf at hM
  replace hM := (ck_some hM).2
  refine lv_iconst (v := (0 : Int32)) hx hb d_Mo_votesOf_0 (by decide) ?_
  refine lv_istore (lv' := [(4, .int (0 : Int32)), (0, .ref (base + l0)), (1, .int l1), (2, .int l2), (3, .int l3)]) hx hb d_Mo_votesOf_1 hl (by decide) rfl (fun ls hl => ?_)
  refine lv_iconst (v := (0 : Int32)) hx hb d_Mo_votesOf_3 (by decide) ?_
  refine lv_istore (lv' := [(5, .int (0 : Int32)), (4, .int (0 : Int32)), (0, .ref (base + l0)), (1, .int l1), (2, .int l2), (3, .int l3)]) hx hb d_Mo_votesOf_4 hl (by decide) rfl (fun ls hl => ?_)
  exact t_Mo_votesOf_6  C  FU (0 : Int32) (0 : Int32) hM _ _ _ hS (lv_sub hl [2, 3, 4, 5, 1, 0] rfl)
theorem c_Mo_votesOf (l : Launch) (base : Nat) (D : va_G) (cI cZ : ClassId) (h : Hp) (l0 : Nat) (l1 : Int32) (l2 : Int32) (l3 : Int32) {r : Int32} (hM : f_Mo_votesOf h l0 l1 l2 l3 = some r) : Ct l base D cI cZ y_Mo_votesOf b_Mo_votesOf 7 (some .int) 1 22 0 0 h [.ref (base + l0), .int l1, .int l2, .int l3] h (some (.int r)) :=
  ct_of (by decide) (Nat.le_of_ble_eq_true rfl) (fun p e s m below meth c ls C hS hl => t_Mo_votesOf C hM _ _ _ hS hl)
theorem d_Mo_liesIn_0 : decode b_Mo_liesIn 0 = .ok (.iconst 0, 1) := by decide +kernel
theorem d_Mo_liesIn_1 : decode b_Mo_liesIn 1 = .ok (.istore_n 3, 1) := by decide +kernel
theorem d_Mo_liesIn_2 : decode b_Mo_liesIn 2 = .ok (.iconst 0, 1) := by decide +kernel
theorem d_Mo_liesIn_3 : decode b_Mo_liesIn 3 = .ok (.istore 4, 2) := by decide +kernel
theorem d_Mo_liesIn_5 : decode b_Mo_liesIn 5 = .ok (.iload 4, 2) := by decide +kernel
theorem d_Mo_liesIn_7 : decode b_Mo_liesIn 7 = .ok (.aload_n 0, 1) := by decide +kernel
theorem d_Mo_liesIn_8 : decode b_Mo_liesIn 8 = .ok (.getfield 16, 3) := by decide +kernel
theorem d_Mo_liesIn_11 : decode b_Mo_liesIn 11 = .ok (.iload_n 1, 1) := by decide +kernel
theorem d_Mo_liesIn_12 : decode b_Mo_liesIn 12 = .ok (.iaload, 1) := by decide +kernel
theorem d_Mo_liesIn_13 : decode b_Mo_liesIn 13 = .ok (.if_icmp .ge 30, 3) := by decide +kernel
theorem d_Mo_liesIn_16 : decode b_Mo_liesIn 16 = .ok (.iload_n 3, 1) := by decide +kernel
theorem d_Mo_liesIn_17 : decode b_Mo_liesIn 17 = .ok (.ifCond .ne 14, 3) := by decide +kernel
theorem d_Mo_liesIn_20 : decode b_Mo_liesIn 20 = .ok (.aload_n 0, 1) := by decide +kernel
theorem d_Mo_liesIn_21 : decode b_Mo_liesIn 21 = .ok (.iload_n 1, 1) := by decide +kernel
theorem d_Mo_liesIn_22 : decode b_Mo_liesIn 22 = .ok (.iload 4, 2) := by decide +kernel
theorem d_Mo_liesIn_24 : decode b_Mo_liesIn 24 = .ok (.invokevirtual 176, 3) := by decide +kernel
theorem d_Mo_liesIn_27 : decode b_Mo_liesIn 27 = .ok (.iload_n 2, 1) := by decide +kernel
theorem d_Mo_liesIn_28 : decode b_Mo_liesIn 28 = .ok (.if_icmp .ne 7, 3) := by decide +kernel
theorem d_Mo_liesIn_31 : decode b_Mo_liesIn 31 = .ok (.iconst 1, 1) := by decide +kernel
theorem d_Mo_liesIn_32 : decode b_Mo_liesIn 32 = .ok (.goto 4, 3) := by decide +kernel
theorem d_Mo_liesIn_35 : decode b_Mo_liesIn 35 = .ok (.iconst 0, 1) := by decide +kernel
theorem d_Mo_liesIn_36 : decode b_Mo_liesIn 36 = .ok (.istore_n 3, 1) := by decide +kernel
theorem d_Mo_liesIn_37 : decode b_Mo_liesIn 37 = .ok (.iinc 4 1, 3) := by decide +kernel
theorem d_Mo_liesIn_40 : decode b_Mo_liesIn 40 = .ok (.goto (-35), 3) := by decide +kernel
theorem d_Mo_liesIn_43 : decode b_Mo_liesIn 43 = .ok (.iload_n 3, 1) := by decide +kernel
theorem d_Mo_liesIn_44 : decode b_Mo_liesIn 44 = .ok (.ireturn, 1) := by decide +kernel
def f_Mo_liesIn_5 (h : Hp) (l0 : Nat) (l1 : Int32) (l2 : Int32) : Nat → Int32 → Int32 → Option Int32
  | 0, _, _ => none
  | n + 1, l3, l4 =>
    (gR h 9 l0 2).bind fun t1 =>
    (gA h false t1 l1).bind fun t2 =>
    if t2 ≤ l4 then (
      rz l3
    ) else (
      (
        if l3 = (0 : Int32) then (
          (f_Mo_folderAt h l0 l1 l4).bind fun t4 =>
          if t4 = l2 then (
            some (1 : Int32)
          ) else (
            some (0 : Int32)
          )
        ) else (
          some (1 : Int32)
        )
      ).bind fun t3 =>
      f_Mo_liesIn_5 h l0 l1 l2 n t3 (l4 + (1 : Int32))
    )
set_option maxHeartbeats 4000000 in
set_option maxRecDepth 100000 in
theorem t_Mo_liesIn_5 {h : Hp} {l0 : Nat} {l1 : Int32} {l2 : Int32} {r : Int32} (C : Cx base D cI cZ b_Mo_liesIn 5 "MovedFoldersModel" "liesIn" (some .boolean) p s m args meth c)  : ∀ (n : Nat) (l3 : Int32) (l4 : Int32), f_Mo_liesIn_5 h l0 l1 l2 n l3 l4 = some r → ∀ (H : Heap) (locs : List Loc) (ls : Array Slot), RS base D cI cZ s H locs h → lv_has ls 5 [(0, .ref (base + l0)), (1, .int l1), (2, .int l2), (3, .int l3), (4, .int l4)] → Wg l base D cI cZ 1 22 0 0 h (some (.int r)) p e s m args below meth c H locs 0 0 (F0 m 5 ls []) := by
  have hx := C.1
  have hb := C.2.1
  intro n
  induction n with
  | zero =>
    intro l3 l4 hM
    rw [f_Mo_liesIn_5] at hM
    cases hM
  | succ n ih =>
    intro l3 l4 hM H locs ls hS hl
    rw [f_Mo_liesIn_5] at hM
    refine lv_iload hx hb d_Mo_liesIn_5 (lv_at hl 4 rfl) ?_
    refine lv_aload_n hx hb d_Mo_liesIn_7 rfl (lv_at hl 0 rfl) ?_
    obtain ⟨t1, et1, hM⟩ := bS hM
    refine r_getR C hS fl_Mo_16 et1 d_Mo_liesIn_8 ?_
    refine lv_iload_n hx hb d_Mo_liesIn_11 rfl (lv_at hl 1 rfl) ?_
    obtain ⟨t2, et2, hM⟩ := bS hM
    refine r_iald C hS et2 d_Mo_liesIn_12 ?_
    refine lv_icmp_ge (tgt := 43) hx hb d_Mo_liesIn_13 (by decide) (fun c13_1 => ?_) (fun c13_1 => ?_)
    · rw [if_pos c13_1] at hM
      refine lv_iload_n hx hb d_Mo_liesIn_43 rfl (lv_at hl 3 rfl) ?_
      exact r_zret C hS hM d_Mo_liesIn_44
    · rw [if_neg c13_1] at hM
      refine lv_iload_n hx hb d_Mo_liesIn_16 rfl (lv_at hl 3 rfl) ?_
      obtain ⟨t3, et3, hM⟩ := bS hM
      have kJ36_2 : ∀ (H : Heap) (locs : List Loc) (ls : Array Slot), RS base D cI cZ s H locs h → lv_has ls 5 [(0, .ref (base + l0)), (1, .int l1), (2, .int l2), (4, .int l4)] → Wg l base D cI cZ 1 22 0 0 h (some (.int r)) p e s m args below meth c H locs 0 0 (F0 m 36 ls [.int t3]) := by
        intro H locs ls hS hl
        refine lv_istore_n (lv' := [(3, .int t3), (0, .ref (base + l0)), (1, .int l1), (2, .int l2), (4, .int l4)]) hx hb d_Mo_liesIn_36 rfl hl (by decide) rfl (fun ls hl => ?_)
        refine lv_iinc (v := (l4 + (1 : Int32))) (lv' := [(4, .int (l4 + (1 : Int32))), (3, .int t3), (0, .ref (base + l0)), (1, .int l1), (2, .int l2)]) hx hb d_Mo_liesIn_37 hl (k := 4) rfl (by rw [oi_1]) (by decide) rfl (fun ls hl => ?_)
        refine lv_goto (tgt := 5) hx hb d_Mo_liesIn_40 (by decide) ?_
        exact ih t3 (l4 + (1 : Int32)) hM _ _ _ hS (lv_sub hl [2, 3, 4, 1, 0] rfl)
      refine lv_if_ne (tgt := 31) hx hb d_Mo_liesIn_17 (by decide) (fun c17_3 => ?_) (fun c17_3 => ?_)
      · rw [if_neg c17_3] at et3
        refine lv_iconst (v := (1 : Int32)) hx hb d_Mo_liesIn_31 (by decide) ?_
        refine lv_goto (tgt := 36) hx hb d_Mo_liesIn_32 (by decide) ?_
        obtain rfl := Option.some.inj et3
        exact kJ36_2 _ _ _ hS (lv_sub hl [0, 1, 2, 4] rfl)
      · rw [if_pos c17_3] at et3
        refine lv_aload_n hx hb d_Mo_liesIn_20 rfl (lv_at hl 0 rfl) ?_
        refine lv_iload_n hx hb d_Mo_liesIn_21 rfl (lv_at hl 1 rfl) ?_
        refine lv_iload hx hb d_Mo_liesIn_22 (lv_at hl 4 rfl) ?_
        obtain ⟨t4, et4, et3⟩ := bS et3
        refine r_callVi (x := t4) C hS cv_Mo_176 (c_Mo_folderAt l base D cI cZ h l0 l1 l4 et4) (o_Mo_folderAt et4) (rest := []) rfl hl.1 rfl (Nat.le_of_ble_eq_true rfl) ⟨(Nat.le_of_ble_eq_true rfl), (Nat.le_of_ble_eq_true rfl)⟩ ⟨(Nat.le_of_ble_eq_true rfl), (Nat.le_of_ble_eq_true rfl)⟩ d_Mo_liesIn_24 (fun H locs hS => ?_)
        refine lv_iload_n hx hb d_Mo_liesIn_27 rfl (lv_at hl 2 rfl) ?_
        refine lv_icmp_ne (tgt := 35) hx hb d_Mo_liesIn_28 (by decide) (fun c28_4 => ?_) (fun c28_4 => ?_)
        · rw [if_neg c28_4] at et3
          refine lv_iconst (v := (0 : Int32)) hx hb d_Mo_liesIn_35 (by decide) ?_
          obtain rfl := Option.some.inj et3
          exact kJ36_2 _ _ _ hS (lv_sub hl [0, 1, 2, 4] rfl)
        · rw [if_pos c28_4] at et3
          refine lv_iconst (v := (1 : Int32)) hx hb d_Mo_liesIn_31 (by decide) ?_
          refine lv_goto (tgt := 36) hx hb d_Mo_liesIn_32 (by decide) ?_
          obtain rfl := Option.some.inj et3
          exact kJ36_2 _ _ _ hS (lv_sub hl [0, 1, 2, 4] rfl)
def f_Mo_liesIn (h : Hp) (l0 : Nat) (l1 : Int32) (l2 : Int32) : Option Int32 :=
  ck h 9 l0 (
    f_Mo_liesIn_5 h l0 l1 l2 FU (0 : Int32) (0 : Int32)
  )
theorem o_Mo_liesIn {h : Hp} {l0 : Nat} {l1 : Int32} {l2 : Int32} {r : Int32} (hM : f_Mo_liesIn h l0 l1 l2 = some r) : isO h 9 l0 = true := by
  unfold f_Mo_liesIn at hM
  exact (ck_some hM).1
set_option maxHeartbeats 4000000 in
set_option maxRecDepth 100000 in
theorem t_Mo_liesIn {h : Hp} {l0 : Nat} {l1 : Int32} {l2 : Int32} {r : Int32} (C : Cx base D cI cZ b_Mo_liesIn 5 "MovedFoldersModel" "liesIn" (some .boolean) p s m args meth c) (hM : f_Mo_liesIn h l0 l1 l2 = some r) (H : Heap) (locs : List Loc) (ls : Array Slot) (hS : RS base D cI cZ s H locs h) (hl : lv_has ls 5 [(0, .ref (base + l0)), (1, .int l1), (2, .int l2)]) : Wg l base D cI cZ 1 22 0 0 h (some (.int r)) p e s m args below meth c H locs 0 0 (F0 m 0 ls []) := by
  have hx := C.1
  have hb := C.2.1
  unfold f_Mo_liesIn at hM
  replace hM := (ck_some hM).2
  refine lv_iconst (v := (0 : Int32)) hx hb d_Mo_liesIn_0 (by decide) ?_
  refine lv_istore_n (lv' := [(3, .int (0 : Int32)), (0, .ref (base + l0)), (1, .int l1), (2, .int l2)]) hx hb d_Mo_liesIn_1 rfl hl (by decide) rfl (fun ls hl => ?_)
  refine lv_iconst (v := (0 : Int32)) hx hb d_Mo_liesIn_2 (by decide) ?_
  refine lv_istore (lv' := [(4, .int (0 : Int32)), (3, .int (0 : Int32)), (0, .ref (base + l0)), (1, .int l1), (2, .int l2)]) hx hb d_Mo_liesIn_3 hl (by decide) rfl (fun ls hl => ?_)
  exact t_Mo_liesIn_5  C  FU (0 : Int32) (0 : Int32) hM _ _ _ hS (lv_sub hl [2, 3, 4, 1, 0] rfl)
theorem c_Mo_liesIn (l : Launch) (base : Nat) (D : va_G) (cI cZ : ClassId) (h : Hp) (l0 : Nat) (l1 : Int32) (l2 : Int32) {r : Int32} (hM : f_Mo_liesIn h l0 l1 l2 = some r) : Ct l base D cI cZ y_Mo_liesIn b_Mo_liesIn 5 (some .boolean) 1 22 0 0 h [.ref (base + l0), .int l1, .int l2] h (some (.int r)) :=
  ct_of (by decide) (Nat.le_of_ble_eq_true rfl) (fun p e s m below meth c ls C hS hl => t_Mo_liesIn C hM _ _ _ hS hl)
theorem d_Mo_movedOf_0 : decode b_Mo_movedOf 0 = .ok (.bipush (-6), 2) := by decide +kernel
theorem d_Mo_movedOf_2 : decode b_Mo_movedOf 2 = .ok (.istore_n 3, 1) := by decide +kernel
theorem d_Mo_movedOf_3 : decode b_Mo_movedOf 3 = .ok (.iconst 0, 1) := by decide +kernel
theorem d_Mo_movedOf_4 : decode b_Mo_movedOf 4 = .ok (.istore 4, 2) := by decide +kernel
theorem d_Mo_movedOf_6 : decode b_Mo_movedOf 6 = .ok (.iconst 0, 1) := by decide +kernel
theorem d_Mo_movedOf_7 : decode b_Mo_movedOf 7 = .ok (.istore 5, 2) := by decide +kernel
theorem d_Mo_movedOf_9 : decode b_Mo_movedOf 9 = .ok (.iconst 0, 1) := by decide +kernel
theorem d_Mo_movedOf_10 : decode b_Mo_movedOf 10 = .ok (.istore 6, 2) := by decide +kernel
theorem d_Mo_movedOf_12 : decode b_Mo_movedOf 12 = .ok (.iload 6, 2) := by decide +kernel
theorem d_Mo_movedOf_14 : decode b_Mo_movedOf 14 = .ok (.aload_n 0, 1) := by decide +kernel
theorem d_Mo_movedOf_15 : decode b_Mo_movedOf 15 = .ok (.getfield 16, 3) := by decide +kernel
theorem d_Mo_movedOf_18 : decode b_Mo_movedOf 18 = .ok (.iload_n 1, 1) := by decide +kernel
theorem d_Mo_movedOf_19 : decode b_Mo_movedOf 19 = .ok (.iaload, 1) := by decide +kernel
theorem d_Mo_movedOf_20 : decode b_Mo_movedOf 20 = .ok (.if_icmp .ge 69, 3) := by decide +kernel
theorem d_Mo_movedOf_23 : decode b_Mo_movedOf 23 = .ok (.aload_n 0, 1) := by decide +kernel
theorem d_Mo_movedOf_24 : decode b_Mo_movedOf 24 = .ok (.iload_n 1, 1) := by decide +kernel
theorem d_Mo_movedOf_25 : decode b_Mo_movedOf 25 = .ok (.iload 6, 2) := by decide +kernel
theorem d_Mo_movedOf_27 : decode b_Mo_movedOf 27 = .ok (.invokevirtual 176, 3) := by decide +kernel
theorem d_Mo_movedOf_30 : decode b_Mo_movedOf 30 = .ok (.istore 7, 2) := by decide +kernel
theorem d_Mo_movedOf_32 : decode b_Mo_movedOf 32 = .ok (.aload_n 0, 1) := by decide +kernel
theorem d_Mo_movedOf_33 : decode b_Mo_movedOf 33 = .ok (.iload_n 1, 1) := by decide +kernel
theorem d_Mo_movedOf_34 : decode b_Mo_movedOf 34 = .ok (.iload_n 2, 1) := by decide +kernel
theorem d_Mo_movedOf_35 : decode b_Mo_movedOf 35 = .ok (.iload 7, 2) := by decide +kernel
theorem d_Mo_movedOf_37 : decode b_Mo_movedOf 37 = .ok (.invokevirtual 179, 3) := by decide +kernel
theorem d_Mo_movedOf_40 : decode b_Mo_movedOf 40 = .ok (.istore 8, 2) := by decide +kernel
theorem d_Mo_movedOf_42 : decode b_Mo_movedOf 42 = .ok (.iload 8, 2) := by decide +kernel
theorem d_Mo_movedOf_44 : decode b_Mo_movedOf 44 = .ok (.iload 4, 2) := by decide +kernel
theorem d_Mo_movedOf_46 : decode b_Mo_movedOf 46 = .ok (.if_icmp .le 16, 3) := by decide +kernel
theorem d_Mo_movedOf_49 : decode b_Mo_movedOf 49 = .ok (.iload 8, 2) := by decide +kernel
theorem d_Mo_movedOf_51 : decode b_Mo_movedOf 51 = .ok (.istore 4, 2) := by decide +kernel
theorem d_Mo_movedOf_53 : decode b_Mo_movedOf 53 = .ok (.iload 7, 2) := by decide +kernel
theorem d_Mo_movedOf_55 : decode b_Mo_movedOf 55 = .ok (.istore_n 3, 1) := by decide +kernel
theorem d_Mo_movedOf_56 : decode b_Mo_movedOf 56 = .ok (.iconst 1, 1) := by decide +kernel
theorem d_Mo_movedOf_57 : decode b_Mo_movedOf 57 = .ok (.istore 5, 2) := by decide +kernel
theorem d_Mo_movedOf_59 : decode b_Mo_movedOf 59 = .ok (.goto 24, 3) := by decide +kernel
theorem d_Mo_movedOf_62 : decode b_Mo_movedOf 62 = .ok (.iload 8, 2) := by decide +kernel
theorem d_Mo_movedOf_64 : decode b_Mo_movedOf 64 = .ok (.iload 4, 2) := by decide +kernel
theorem d_Mo_movedOf_66 : decode b_Mo_movedOf 66 = .ok (.if_icmp .ne 17, 3) := by decide +kernel
theorem d_Mo_movedOf_69 : decode b_Mo_movedOf 69 = .ok (.iload 8, 2) := by decide +kernel
theorem d_Mo_movedOf_71 : decode b_Mo_movedOf 71 = .ok (.ifCond .le 12, 3) := by decide +kernel
theorem d_Mo_movedOf_74 : decode b_Mo_movedOf 74 = .ok (.iload 7, 2) := by decide +kernel
theorem d_Mo_movedOf_76 : decode b_Mo_movedOf 76 = .ok (.iload_n 3, 1) := by decide +kernel
theorem d_Mo_movedOf_77 : decode b_Mo_movedOf 77 = .ok (.if_icmp .eq 6, 3) := by decide +kernel
theorem d_Mo_movedOf_80 : decode b_Mo_movedOf 80 = .ok (.iconst 0, 1) := by decide +kernel
theorem d_Mo_movedOf_81 : decode b_Mo_movedOf 81 = .ok (.istore 5, 2) := by decide +kernel
theorem d_Mo_movedOf_83 : decode b_Mo_movedOf 83 = .ok (.iinc 6 1, 3) := by decide +kernel
theorem d_Mo_movedOf_86 : decode b_Mo_movedOf 86 = .ok (.goto (-74), 3) := by decide +kernel
theorem d_Mo_movedOf_89 : decode b_Mo_movedOf 89 = .ok (.iload 5, 2) := by decide +kernel
theorem d_Mo_movedOf_91 : decode b_Mo_movedOf 91 = .ok (.ifCond .eq 25, 3) := by decide +kernel
theorem d_Mo_movedOf_94 : decode b_Mo_movedOf 94 = .ok (.aload_n 0, 1) := by decide +kernel
theorem d_Mo_movedOf_95 : decode b_Mo_movedOf 95 = .ok (.iconst 0, 1) := by decide +kernel
theorem d_Mo_movedOf_96 : decode b_Mo_movedOf 96 = .ok (.iload_n 2, 1) := by decide +kernel
theorem d_Mo_movedOf_97 : decode b_Mo_movedOf 97 = .ok (.invokevirtual 183, 3) := by decide +kernel
theorem d_Mo_movedOf_100 : decode b_Mo_movedOf 100 = .ok (.ifCond .eq 16, 3) := by decide +kernel
theorem d_Mo_movedOf_103 : decode b_Mo_movedOf 103 = .ok (.aload_n 0, 1) := by decide +kernel
theorem d_Mo_movedOf_104 : decode b_Mo_movedOf 104 = .ok (.iload_n 1, 1) := by decide +kernel
theorem d_Mo_movedOf_105 : decode b_Mo_movedOf 105 = .ok (.iload_n 2, 1) := by decide +kernel
theorem d_Mo_movedOf_106 : decode b_Mo_movedOf 106 = .ok (.invokevirtual 183, 3) := by decide +kernel
theorem d_Mo_movedOf_109 : decode b_Mo_movedOf 109 = .ok (.ifCond .ne 7, 3) := by decide +kernel
theorem d_Mo_movedOf_112 : decode b_Mo_movedOf 112 = .ok (.iload_n 3, 1) := by decide +kernel
theorem d_Mo_movedOf_113 : decode b_Mo_movedOf 113 = .ok (.goto 5, 3) := by decide +kernel
theorem d_Mo_movedOf_116 : decode b_Mo_movedOf 116 = .ok (.bipush (-6), 2) := by decide +kernel
theorem d_Mo_movedOf_118 : decode b_Mo_movedOf 118 = .ok (.ireturn, 1) := by decide +kernel
def f_Mo_movedOf_12 (h : Hp) (l0 : Nat) (l1 : Int32) (l2 : Int32) : Nat → Int32 → Int32 → Int32 → Int32 → Option Int32
  | 0, _, _, _, _ => none
  | n + 1, l3, l4, l5, l6 =>
    (gR h 9 l0 2).bind fun t1 =>
    (gA h false t1 l1).bind fun t2 =>
    if t2 ≤ l6 then (
      (
        if l5 = (0 : Int32) then (
          some (-6 : Int32)
        ) else (
          (f_Mo_liesIn h l0 (0 : Int32) l2).bind fun t4 =>
          if t4 = (0 : Int32) then (
            some (-6 : Int32)
          ) else (
            (f_Mo_liesIn h l0 l1 l2).bind fun t5 =>
            if t5 = (0 : Int32) then (
              some l3
            ) else (
              some (-6 : Int32)
            )
          )
        )
      ).bind fun t3 =>
      some t3
    ) else (
      (f_Mo_folderAt h l0 l1 l6).bind fun t6 =>
      (f_Mo_votesOf h l0 l1 l2 t6).bind fun t7 =>
      (
        if t7 ≤ l4 then (
          if t7 = l4 then (
            if t7 ≤ (0 : Int32) then (
              some (l3, l4, l5)
            ) else (
              if t6 = l3 then (
                some (l3, l4, l5)
              ) else (
                some (l3, l4, (0 : Int32))
              )
            )
          ) else (
            some (l3, l4, l5)
          )
        ) else (
          some (t6, t7, (1 : Int32))
        )
      ).bind fun q8 =>
      f_Mo_movedOf_12 h l0 l1 l2 n q8.1 q8.2.1 q8.2.2 (l6 + (1 : Int32))
    )
set_option maxHeartbeats 4000000 in
set_option maxRecDepth 100000 in
theorem t_Mo_movedOf_12 {h : Hp} {l0 : Nat} {l1 : Int32} {l2 : Int32} {r : Int32} (C : Cx base D cI cZ b_Mo_movedOf 9 "MovedFoldersModel" "movedOf" (some .int) p s m args meth c)  : ∀ (n : Nat) (l3 : Int32) (l4 : Int32) (l5 : Int32) (l6 : Int32), f_Mo_movedOf_12 h l0 l1 l2 n l3 l4 l5 l6 = some r → ∀ (H : Heap) (locs : List Loc) (ls : Array Slot), RS base D cI cZ s H locs h → lv_has ls 9 [(0, .ref (base + l0)), (1, .int l1), (2, .int l2), (3, .int l3), (4, .int l4), (5, .int l5), (6, .int l6)] → Wg l base D cI cZ 2 48 0 0 h (some (.int r)) p e s m args below meth c H locs 0 0 (F0 m 12 ls []) := by
  have hx := C.1
  have hb := C.2.1
  intro n
  induction n with
  | zero =>
    intro l3 l4 l5 l6 hM
    rw [f_Mo_movedOf_12] at hM
    cases hM
  | succ n ih =>
    intro l3 l4 l5 l6 hM H locs ls hS hl
    rw [f_Mo_movedOf_12] at hM
    refine lv_iload hx hb d_Mo_movedOf_12 (lv_at hl 6 rfl) ?_
    refine lv_aload_n hx hb d_Mo_movedOf_14 rfl (lv_at hl 0 rfl) ?_
    obtain ⟨t1, et1, hM⟩ := bS hM
    refine r_getR C hS fl_Mo_16 et1 d_Mo_movedOf_15 ?_
    refine lv_iload_n hx hb d_Mo_movedOf_18 rfl (lv_at hl 1 rfl) ?_
    obtain ⟨t2, et2, hM⟩ := bS hM
    refine r_iald C hS et2 d_Mo_movedOf_19 ?_
    refine lv_icmp_ge (tgt := 89) hx hb d_Mo_movedOf_20 (by decide) (fun c20_1 => ?_) (fun c20_1 => ?_)
    · rw [if_pos c20_1] at hM
      refine lv_iload hx hb d_Mo_movedOf_89 (lv_at hl 5 rfl) ?_
      obtain ⟨t3, et3, hM⟩ := bS hM
      have kJ118_2 : ∀ (H : Heap) (locs : List Loc) (ls : Array Slot), RS base D cI cZ s H locs h → lv_has ls 9 [] → Wg l base D cI cZ 2 48 0 0 h (some (.int r)) p e s m args below meth c H locs 0 0 (F0 m 118 ls [.int t3]) := by
        intro H locs ls hS hl
        obtain rfl := Option.some.inj hM
        exact r_iret C hS d_Mo_movedOf_118
      refine lv_if_eq (tgt := 116) hx hb d_Mo_movedOf_91 (by decide) (fun c91_3 => ?_) (fun c91_3 => ?_)
      · rw [if_pos c91_3] at et3
        refine lv_bipush (v := (-6 : Int32)) hx hb d_Mo_movedOf_116 (by decide) ?_
        obtain rfl := Option.some.inj et3
        exact kJ118_2 _ _ _ hS (lv_sub hl [] rfl)
      · rw [if_neg c91_3] at et3
        refine lv_aload_n hx hb d_Mo_movedOf_94 rfl (lv_at hl 0 rfl) ?_
        refine lv_iconst (v := (0 : Int32)) hx hb d_Mo_movedOf_95 (by decide) ?_
        refine lv_iload_n hx hb d_Mo_movedOf_96 rfl (lv_at hl 2 rfl) ?_
        obtain ⟨t4, et4, et3⟩ := bS et3
        refine r_callVi (x := t4) C hS cv_Mo_183 (c_Mo_liesIn l base D cI cZ h l0 (0 : Int32) l2 et4) (o_Mo_liesIn et4) (rest := []) rfl hl.1 rfl (Nat.le_of_ble_eq_true rfl) ⟨(Nat.le_of_ble_eq_true rfl), (Nat.le_of_ble_eq_true rfl)⟩ ⟨(Nat.le_of_ble_eq_true rfl), (Nat.le_of_ble_eq_true rfl)⟩ d_Mo_movedOf_97 (fun H locs hS => ?_)
        refine lv_if_eq (tgt := 116) hx hb d_Mo_movedOf_100 (by decide) (fun c100_4 => ?_) (fun c100_4 => ?_)
        · rw [if_pos c100_4] at et3
          refine lv_bipush (v := (-6 : Int32)) hx hb d_Mo_movedOf_116 (by decide) ?_
          obtain rfl := Option.some.inj et3
          exact kJ118_2 _ _ _ hS (lv_sub hl [] rfl)
        · rw [if_neg c100_4] at et3
          refine lv_aload_n hx hb d_Mo_movedOf_103 rfl (lv_at hl 0 rfl) ?_
          refine lv_iload_n hx hb d_Mo_movedOf_104 rfl (lv_at hl 1 rfl) ?_
          refine lv_iload_n hx hb d_Mo_movedOf_105 rfl (lv_at hl 2 rfl) ?_
          obtain ⟨t5, et5, et3⟩ := bS et3
          refine r_callVi (x := t5) C hS cv_Mo_183 (c_Mo_liesIn l base D cI cZ h l0 l1 l2 et5) (o_Mo_liesIn et5) (rest := []) rfl hl.1 rfl (Nat.le_of_ble_eq_true rfl) ⟨(Nat.le_of_ble_eq_true rfl), (Nat.le_of_ble_eq_true rfl)⟩ ⟨(Nat.le_of_ble_eq_true rfl), (Nat.le_of_ble_eq_true rfl)⟩ d_Mo_movedOf_106 (fun H locs hS => ?_)
          refine lv_if_ne (tgt := 116) hx hb d_Mo_movedOf_109 (by decide) (fun c109_5 => ?_) (fun c109_5 => ?_)
          · rw [if_neg c109_5] at et3
            refine lv_bipush (v := (-6 : Int32)) hx hb d_Mo_movedOf_116 (by decide) ?_
            obtain rfl := Option.some.inj et3
            exact kJ118_2 _ _ _ hS (lv_sub hl [] rfl)
          · rw [if_pos c109_5] at et3
            refine lv_iload_n hx hb d_Mo_movedOf_112 rfl (lv_at hl 3 rfl) ?_
            refine lv_goto (tgt := 118) hx hb d_Mo_movedOf_113 (by decide) ?_
            obtain rfl := Option.some.inj et3
            exact kJ118_2 _ _ _ hS (lv_sub hl [] rfl)
    · rw [if_neg c20_1] at hM
      refine lv_aload_n hx hb d_Mo_movedOf_23 rfl (lv_at hl 0 rfl) ?_
      refine lv_iload_n hx hb d_Mo_movedOf_24 rfl (lv_at hl 1 rfl) ?_
      refine lv_iload hx hb d_Mo_movedOf_25 (lv_at hl 6 rfl) ?_
      obtain ⟨t6, et6, hM⟩ := bS hM
      refine r_callVi (x := t6) C hS cv_Mo_176 (c_Mo_folderAt l base D cI cZ h l0 l1 l6 et6) (o_Mo_folderAt et6) (rest := []) rfl hl.1 rfl (Nat.le_of_ble_eq_true rfl) ⟨(Nat.le_of_ble_eq_true rfl), (Nat.le_of_ble_eq_true rfl)⟩ ⟨(Nat.le_of_ble_eq_true rfl), (Nat.le_of_ble_eq_true rfl)⟩ d_Mo_movedOf_27 (fun H locs hS => ?_)
      refine lv_istore (lv' := [(7, .int t6), (0, .ref (base + l0)), (1, .int l1), (2, .int l2), (3, .int l3), (4, .int l4), (5, .int l5), (6, .int l6)]) hx hb d_Mo_movedOf_30 hl (by decide) rfl (fun ls hl => ?_)
      refine lv_aload_n hx hb d_Mo_movedOf_32 rfl (lv_at hl 1 rfl) ?_
      refine lv_iload_n hx hb d_Mo_movedOf_33 rfl (lv_at hl 2 rfl) ?_
      refine lv_iload_n hx hb d_Mo_movedOf_34 rfl (lv_at hl 3 rfl) ?_
      refine lv_iload hx hb d_Mo_movedOf_35 (lv_at hl 0 rfl) ?_
      obtain ⟨t7, et7, hM⟩ := bS hM
      refine r_callVi (x := t7) C hS cv_Mo_179 (c_Mo_votesOf l base D cI cZ h l0 l1 l2 t6 et7) (o_Mo_votesOf et7) (rest := []) rfl hl.1 rfl (Nat.le_of_ble_eq_true rfl) ⟨(Nat.le_of_ble_eq_true rfl), (Nat.le_of_ble_eq_true rfl)⟩ ⟨(Nat.le_of_ble_eq_true rfl), (Nat.le_of_ble_eq_true rfl)⟩ d_Mo_movedOf_37 (fun H locs hS => ?_)
      refine lv_istore (lv' := [(8, .int t7), (7, .int t6), (0, .ref (base + l0)), (1, .int l1), (2, .int l2), (3, .int l3), (4, .int l4), (5, .int l5), (6, .int l6)]) hx hb d_Mo_movedOf_40 hl (by decide) rfl (fun ls hl => ?_)
      refine lv_iload hx hb d_Mo_movedOf_42 (lv_at hl 0 rfl) ?_
      refine lv_iload hx hb d_Mo_movedOf_44 (lv_at hl 6 rfl) ?_
      obtain ⟨q8, eq8, hM⟩ := bS hM
      have kJ83_6 : ∀ (H : Heap) (locs : List Loc) (ls : Array Slot), RS base D cI cZ s H locs h → lv_has ls 9 [(0, .ref (base + l0)), (1, .int l1), (2, .int l2), (3, .int q8.1), (4, .int q8.2.1), (5, .int q8.2.2), (6, .int l6)] → Wg l base D cI cZ 2 48 0 0 h (some (.int r)) p e s m args below meth c H locs 0 0 (F0 m 83 ls []) := by
        intro H locs ls hS hl
        refine lv_iinc (v := (l6 + (1 : Int32))) (lv' := [(6, .int (l6 + (1 : Int32))), (0, .ref (base + l0)), (1, .int l1), (2, .int l2), (3, .int q8.1), (4, .int q8.2.1), (5, .int q8.2.2)]) hx hb d_Mo_movedOf_83 hl (k := 6) rfl (by rw [oi_1]) (by decide) rfl (fun ls hl => ?_)
        refine lv_goto (tgt := 12) hx hb d_Mo_movedOf_86 (by decide) ?_
        exact ih q8.1 q8.2.1 q8.2.2 (l6 + (1 : Int32)) hM _ _ _ hS (lv_sub hl [1, 2, 3, 4, 5, 6, 0] rfl)
      refine lv_icmp_le (tgt := 62) hx hb d_Mo_movedOf_46 (by decide) (fun c46_7 => ?_) (fun c46_7 => ?_)
      · rw [if_pos c46_7] at eq8
        refine lv_iload hx hb d_Mo_movedOf_62 (lv_at hl 0 rfl) ?_
        refine lv_iload hx hb d_Mo_movedOf_64 (lv_at hl 6 rfl) ?_
        refine lv_icmp_ne (tgt := 83) hx hb d_Mo_movedOf_66 (by decide) (fun c66_8 => ?_) (fun c66_8 => ?_)
        · rw [if_neg c66_8] at eq8
          obtain rfl := Option.some.inj eq8
          exact kJ83_6 _ _ _ hS (lv_sub hl [2, 3, 4, 5, 6, 7, 8] rfl)
        · rw [if_pos c66_8] at eq8
          refine lv_iload hx hb d_Mo_movedOf_69 (lv_at hl 0 rfl) ?_
          refine lv_if_le (tgt := 83) hx hb d_Mo_movedOf_71 (by decide) (fun c71_9 => ?_) (fun c71_9 => ?_)
          · rw [if_pos c71_9] at eq8
            obtain rfl := Option.some.inj eq8
            exact kJ83_6 _ _ _ hS (lv_sub hl [2, 3, 4, 5, 6, 7, 8] rfl)
          · rw [if_neg c71_9] at eq8
            refine lv_iload hx hb d_Mo_movedOf_74 (lv_at hl 1 rfl) ?_
            refine lv_iload_n hx hb d_Mo_movedOf_76 rfl (lv_at hl 5 rfl) ?_
            refine lv_icmp_eq (tgt := 83) hx hb d_Mo_movedOf_77 (by decide) (fun c77_10 => ?_) (fun c77_10 => ?_)
            · rw [if_pos c77_10] at eq8
              obtain rfl := Option.some.inj eq8
              exact kJ83_6 _ _ _ hS (lv_sub hl [2, 3, 4, 5, 6, 7, 8] rfl)
            · rw [if_neg c77_10] at eq8
              refine lv_iconst (v := (0 : Int32)) hx hb d_Mo_movedOf_80 (by decide) ?_
              refine lv_istore (lv' := [(5, .int (0 : Int32)), (8, .int t7), (7, .int t6), (0, .ref (base + l0)), (1, .int l1), (2, .int l2), (3, .int l3), (4, .int l4), (6, .int l6)]) hx hb d_Mo_movedOf_81 hl (by decide) rfl (fun ls hl => ?_)
              obtain rfl := Option.some.inj eq8
              exact kJ83_6 _ _ _ hS (lv_sub hl [3, 4, 5, 6, 7, 0, 8] rfl)
      · rw [if_neg c46_7] at eq8
        refine lv_iload hx hb d_Mo_movedOf_49 (lv_at hl 0 rfl) ?_
        refine lv_istore (lv' := [(4, .int t7), (8, .int t7), (7, .int t6), (0, .ref (base + l0)), (1, .int l1), (2, .int l2), (3, .int l3), (5, .int l5), (6, .int l6)]) hx hb d_Mo_movedOf_51 hl (by decide) rfl (fun ls hl => ?_)
        refine lv_iload hx hb d_Mo_movedOf_53 (lv_at hl 2 rfl) ?_
        refine lv_istore_n (lv' := [(3, .int t6), (4, .int t7), (8, .int t7), (7, .int t6), (0, .ref (base + l0)), (1, .int l1), (2, .int l2), (5, .int l5), (6, .int l6)]) hx hb d_Mo_movedOf_55 rfl hl (by decide) rfl (fun ls hl => ?_)
        refine lv_iconst (v := (1 : Int32)) hx hb d_Mo_movedOf_56 (by decide) ?_
        refine lv_istore (lv' := [(5, .int (1 : Int32)), (3, .int t6), (4, .int t7), (8, .int t7), (7, .int t6), (0, .ref (base + l0)), (1, .int l1), (2, .int l2), (6, .int l6)]) hx hb d_Mo_movedOf_57 hl (by decide) rfl (fun ls hl => ?_)
        refine lv_goto (tgt := 83) hx hb d_Mo_movedOf_59 (by decide) ?_
        obtain rfl := Option.some.inj eq8
        exact kJ83_6 _ _ _ hS (lv_sub hl [5, 6, 7, 1, 2, 0, 8] rfl)
def f_Mo_movedOf (h : Hp) (l0 : Nat) (l1 : Int32) (l2 : Int32) : Option Int32 :=
  ck h 9 l0 (
    f_Mo_movedOf_12 h l0 l1 l2 FU (-6 : Int32) (0 : Int32) (0 : Int32) (0 : Int32)
  )
theorem o_Mo_movedOf {h : Hp} {l0 : Nat} {l1 : Int32} {l2 : Int32} {r : Int32} (hM : f_Mo_movedOf h l0 l1 l2 = some r) : isO h 9 l0 = true := by
  unfold f_Mo_movedOf at hM
  exact (ck_some hM).1
set_option maxHeartbeats 4000000 in
set_option maxRecDepth 100000 in
theorem t_Mo_movedOf {h : Hp} {l0 : Nat} {l1 : Int32} {l2 : Int32} {r : Int32} (C : Cx base D cI cZ b_Mo_movedOf 9 "MovedFoldersModel" "movedOf" (some .int) p s m args meth c) (hM : f_Mo_movedOf h l0 l1 l2 = some r) (H : Heap) (locs : List Loc) (ls : Array Slot) (hS : RS base D cI cZ s H locs h) (hl : lv_has ls 9 [(0, .ref (base + l0)), (1, .int l1), (2, .int l2)]) : Wg l base D cI cZ 2 48 0 0 h (some (.int r)) p e s m args below meth c H locs 0 0 (F0 m 0 ls []) := by
  have hx := C.1
  have hb := C.2.1
  unfold f_Mo_movedOf at hM
  replace hM := (ck_some hM).2
  refine lv_bipush (v := (-6 : Int32)) hx hb d_Mo_movedOf_0 (by decide) ?_
  refine lv_istore_n (lv' := [(3, .int (-6 : Int32)), (0, .ref (base + l0)), (1, .int l1), (2, .int l2)]) hx hb d_Mo_movedOf_2 rfl hl (by decide) rfl (fun ls hl => ?_)
  refine lv_iconst (v := (0 : Int32)) hx hb d_Mo_movedOf_3 (by decide) ?_
  refine lv_istore (lv' := [(4, .int (0 : Int32)), (3, .int (-6 : Int32)), (0, .ref (base + l0)), (1, .int l1), (2, .int l2)]) hx hb d_Mo_movedOf_4 hl (by decide) rfl (fun ls hl => ?_)
  refine lv_iconst (v := (0 : Int32)) hx hb d_Mo_movedOf_6 (by decide) ?_
  refine lv_istore (lv' := [(5, .int (0 : Int32)), (4, .int (0 : Int32)), (3, .int (-6 : Int32)), (0, .ref (base + l0)), (1, .int l1), (2, .int l2)]) hx hb d_Mo_movedOf_7 hl (by decide) rfl (fun ls hl => ?_)
  refine lv_iconst (v := (0 : Int32)) hx hb d_Mo_movedOf_9 (by decide) ?_
  refine lv_istore (lv' := [(6, .int (0 : Int32)), (5, .int (0 : Int32)), (4, .int (0 : Int32)), (3, .int (-6 : Int32)), (0, .ref (base + l0)), (1, .int l1), (2, .int l2)]) hx hb d_Mo_movedOf_10 hl (by decide) rfl (fun ls hl => ?_)
  exact t_Mo_movedOf_12  C  FU (-6 : Int32) (0 : Int32) (0 : Int32) (0 : Int32) hM _ _ _ hS (lv_sub hl [4, 5, 6, 3, 2, 1, 0] rfl)
theorem c_Mo_movedOf (l : Launch) (base : Nat) (D : va_G) (cI cZ : ClassId) (h : Hp) (l0 : Nat) (l1 : Int32) (l2 : Int32) {r : Int32} (hM : f_Mo_movedOf h l0 l1 l2 = some r) : Ct l base D cI cZ y_Mo_movedOf b_Mo_movedOf 9 (some .int) 2 48 0 0 h [.ref (base + l0), .int l1, .int l2] h (some (.int r)) :=
  ct_of (by decide) (Nat.le_of_ble_eq_true rfl) (fun p e s m below meth c ls C hS hl => t_Mo_movedOf C hM _ _ _ hS hl)
theorem d_Mo_findMoves_0 : decode b_Mo_findMoves 0 = .ok (.aload_n 0, 1) := by decide +kernel
theorem d_Mo_findMoves_1 : decode b_Mo_findMoves 1 = .ok (.iload_n 1, 1) := by decide +kernel
theorem d_Mo_findMoves_2 : decode b_Mo_findMoves 2 = .ok (.invokevirtual 172, 3) := by decide +kernel
theorem d_Mo_findMoves_5 : decode b_Mo_findMoves 5 = .ok (.iconst 0, 1) := by decide +kernel
theorem d_Mo_findMoves_6 : decode b_Mo_findMoves 6 = .ok (.istore_n 2, 1) := by decide +kernel
theorem d_Mo_findMoves_7 : decode b_Mo_findMoves 7 = .ok (.iload_n 2, 1) := by decide +kernel
theorem d_Mo_findMoves_8 : decode b_Mo_findMoves 8 = .ok (.sipush 445, 3) := by decide +kernel
theorem d_Mo_findMoves_11 : decode b_Mo_findMoves 11 = .ok (.if_icmp .ge 48, 3) := by decide +kernel
theorem d_Mo_findMoves_14 : decode b_Mo_findMoves 14 = .ok (.aload_n 0, 1) := by decide +kernel
theorem d_Mo_findMoves_15 : decode b_Mo_findMoves 15 = .ok (.getfield 35, 3) := by decide +kernel
theorem d_Mo_findMoves_18 : decode b_Mo_findMoves 18 = .ok (.sipush 445, 3) := by decide +kernel
theorem d_Mo_findMoves_21 : decode b_Mo_findMoves 21 = .ok (.iload_n 1, 1) := by decide +kernel
theorem d_Mo_findMoves_22 : decode b_Mo_findMoves 22 = .ok (.imul, 1) := by decide +kernel
theorem d_Mo_findMoves_23 : decode b_Mo_findMoves 23 = .ok (.iload_n 2, 1) := by decide +kernel
theorem d_Mo_findMoves_24 : decode b_Mo_findMoves 24 = .ok (.iadd, 1) := by decide +kernel
theorem d_Mo_findMoves_25 : decode b_Mo_findMoves 25 = .ok (.iload_n 2, 1) := by decide +kernel
theorem d_Mo_findMoves_26 : decode b_Mo_findMoves 26 = .ok (.invokestatic 186, 3) := by decide +kernel
theorem d_Mo_findMoves_29 : decode b_Mo_findMoves 29 = .ok (.ifCond .eq 21, 3) := by decide +kernel
theorem d_Mo_findMoves_32 : decode b_Mo_findMoves 32 = .ok (.aload_n 0, 1) := by decide +kernel
theorem d_Mo_findMoves_33 : decode b_Mo_findMoves 33 = .ok (.iconst 0, 1) := by decide +kernel
theorem d_Mo_findMoves_34 : decode b_Mo_findMoves 34 = .ok (.iload_n 2, 1) := by decide +kernel
theorem d_Mo_findMoves_35 : decode b_Mo_findMoves 35 = .ok (.invokevirtual 183, 3) := by decide +kernel
theorem d_Mo_findMoves_38 : decode b_Mo_findMoves 38 = .ok (.ifCond .eq 12, 3) := by decide +kernel
theorem d_Mo_findMoves_41 : decode b_Mo_findMoves 41 = .ok (.aload_n 0, 1) := by decide +kernel
theorem d_Mo_findMoves_42 : decode b_Mo_findMoves 42 = .ok (.iload_n 1, 1) := by decide +kernel
theorem d_Mo_findMoves_43 : decode b_Mo_findMoves 43 = .ok (.iload_n 2, 1) := by decide +kernel
theorem d_Mo_findMoves_44 : decode b_Mo_findMoves 44 = .ok (.invokevirtual 189, 3) := by decide +kernel
theorem d_Mo_findMoves_47 : decode b_Mo_findMoves 47 = .ok (.goto 5, 3) := by decide +kernel
theorem d_Mo_findMoves_50 : decode b_Mo_findMoves 50 = .ok (.bipush (-6), 2) := by decide +kernel
theorem d_Mo_findMoves_52 : decode b_Mo_findMoves 52 = .ok (.iastore, 1) := by decide +kernel
theorem d_Mo_findMoves_53 : decode b_Mo_findMoves 53 = .ok (.iinc 2 1, 3) := by decide +kernel
theorem d_Mo_findMoves_56 : decode b_Mo_findMoves 56 = .ok (.goto (-49), 3) := by decide +kernel
theorem d_Mo_findMoves_59 : decode b_Mo_findMoves 59 = .ok (.return_, 1) := by decide +kernel
def f_Mo_findMoves_7 (l0 : Nat) (l1 : Int32) : Nat → Int32 → Hp → Option Hp
  | 0, _, _ => none
  | n + 1, l2, h =>
    if (445 : Int32) ≤ l2 then (
      some h
    ) else (
      (gR h 9 l0 14).bind fun t2 =>
      (f_Mo_isFolder l2).bind fun t3 =>
      (
        if t3 = (0 : Int32) then (
          some (-6 : Int32)
        ) else (
          (f_Mo_liesIn h l0 (0 : Int32) l2).bind fun t5 =>
          if t5 = (0 : Int32) then (
            some (-6 : Int32)
          ) else (
            (f_Mo_movedOf h l0 l1 l2).bind fun t6 =>
            some t6
          )
        )
      ).bind fun t4 =>
      (sA h t2 (((445 : Int32) * l1) + l2) t4).bind fun h7 =>
      f_Mo_findMoves_7 l0 l1 n (l2 + (1 : Int32)) h7
    )
set_option maxHeartbeats 4000000 in
set_option maxRecDepth 100000 in
theorem t_Mo_findMoves_7 {l0 : Nat} {l1 : Int32} {r : Hp} (C : Cx base D cI cZ b_Mo_findMoves 3 "MovedFoldersModel" "findMoves" none p s m args meth c)  : ∀ (n : Nat) (l2 : Int32) (h : Hp), f_Mo_findMoves_7 l0 l1 n l2 h = some r → ∀ (H : Heap) (locs : List Loc) (ls : Array Slot), RS base D cI cZ s H locs h → lv_has ls 3 [(0, .ref (base + l0)), (1, .int l1), (2, .int l2)] → Wg l base D cI cZ 5 124 0 0 r none p e s m args below meth c H locs 0 0 (F0 m 7 ls []) := by
  have hx := C.1
  have hb := C.2.1
  intro n
  induction n with
  | zero =>
    intro l2 h hM
    rw [f_Mo_findMoves_7] at hM
    cases hM
  | succ n ih =>
    intro l2 h hM H locs ls hS hl
    rw [f_Mo_findMoves_7] at hM
    refine lv_iload_n hx hb d_Mo_findMoves_7 rfl (lv_at hl 2 rfl) ?_
    refine lv_sipush (v := (445 : Int32)) hx hb d_Mo_findMoves_8 (by decide) ?_
    refine lv_icmp_ge (tgt := 59) hx hb d_Mo_findMoves_11 (by decide) (fun c11_1 => ?_) (fun c11_1 => ?_)
    · rw [if_pos c11_1] at hM
      obtain rfl := Option.some.inj hM
      exact r_vret C hS d_Mo_findMoves_59
    · rw [if_neg c11_1] at hM
      refine lv_aload_n hx hb d_Mo_findMoves_14 rfl (lv_at hl 0 rfl) ?_
      obtain ⟨t2, et2, hM⟩ := bS hM
      refine r_getR C hS fl_Mo_35 et2 d_Mo_findMoves_15 ?_
      refine lv_sipush (v := (445 : Int32)) hx hb d_Mo_findMoves_18 (by decide) ?_
      refine lv_iload_n hx hb d_Mo_findMoves_21 rfl (lv_at hl 1 rfl) ?_
      refine lv_imul hx hb d_Mo_findMoves_22 ?_
      refine lv_iload_n hx hb d_Mo_findMoves_23 rfl (lv_at hl 2 rfl) ?_
      refine lv_iadd hx hb d_Mo_findMoves_24 ?_
      refine lv_iload_n hx hb d_Mo_findMoves_25 rfl (lv_at hl 2 rfl) ?_
      obtain ⟨t3, et3, hM⟩ := bS hM
      refine r_callSi (x := t3) C hS cs_Mo_186 (c_Mo_isFolder l base D cI cZ h l2 et3) (rest := [.int (((445 : Int32) * l1) + l2), .ref (base + t2)]) rfl hl.1 rfl (Nat.le_of_ble_eq_true rfl) ⟨(Nat.le_of_ble_eq_true rfl), (Nat.le_of_ble_eq_true rfl)⟩ ⟨(Nat.le_of_ble_eq_true rfl), (Nat.le_of_ble_eq_true rfl)⟩ d_Mo_findMoves_26 (fun H locs hS => ?_)
      obtain ⟨t4, et4, hM⟩ := bS hM
      have kJ52_2 : ∀ (H : Heap) (locs : List Loc) (ls : Array Slot), RS base D cI cZ s H locs h → lv_has ls 3 [(0, .ref (base + l0)), (1, .int l1), (2, .int l2)] → Wg l base D cI cZ 5 124 0 0 r none p e s m args below meth c H locs 0 0 (F0 m 52 ls [.int t4, .int (((445 : Int32) * l1) + l2), .ref (base + t2)]) := by
        intro H locs ls hS hl
        obtain ⟨h7, eh7, hM⟩ := bS hM
        refine r_iast C hS eh7 d_Mo_findMoves_52 (fun H locs hS => ?_)
        refine lv_iinc (v := (l2 + (1 : Int32))) (lv' := [(2, .int (l2 + (1 : Int32))), (0, .ref (base + l0)), (1, .int l1)]) hx hb d_Mo_findMoves_53 hl (k := 2) rfl (by rw [oi_1]) (by decide) rfl (fun ls hl => ?_)
        refine lv_goto (tgt := 7) hx hb d_Mo_findMoves_56 (by decide) ?_
        exact ih (l2 + (1 : Int32)) h7 hM _ _ _ hS (lv_sub hl [1, 2, 0] rfl)
      refine lv_if_eq (tgt := 50) hx hb d_Mo_findMoves_29 (by decide) (fun c29_3 => ?_) (fun c29_3 => ?_)
      · rw [if_pos c29_3] at et4
        refine lv_bipush (v := (-6 : Int32)) hx hb d_Mo_findMoves_50 (by decide) ?_
        obtain rfl := Option.some.inj et4
        exact kJ52_2 _ _ _ hS (lv_sub hl [0, 1, 2] rfl)
      · rw [if_neg c29_3] at et4
        refine lv_aload_n hx hb d_Mo_findMoves_32 rfl (lv_at hl 0 rfl) ?_
        refine lv_iconst (v := (0 : Int32)) hx hb d_Mo_findMoves_33 (by decide) ?_
        refine lv_iload_n hx hb d_Mo_findMoves_34 rfl (lv_at hl 2 rfl) ?_
        obtain ⟨t5, et5, et4⟩ := bS et4
        refine r_callVi (x := t5) C hS cv_Mo_183 (c_Mo_liesIn l base D cI cZ h l0 (0 : Int32) l2 et5) (o_Mo_liesIn et5) (rest := [.int (((445 : Int32) * l1) + l2), .ref (base + t2)]) rfl hl.1 rfl (Nat.le_of_ble_eq_true rfl) ⟨(Nat.le_of_ble_eq_true rfl), (Nat.le_of_ble_eq_true rfl)⟩ ⟨(Nat.le_of_ble_eq_true rfl), (Nat.le_of_ble_eq_true rfl)⟩ d_Mo_findMoves_35 (fun H locs hS => ?_)
        refine lv_if_eq (tgt := 50) hx hb d_Mo_findMoves_38 (by decide) (fun c38_4 => ?_) (fun c38_4 => ?_)
        · rw [if_pos c38_4] at et4
          refine lv_bipush (v := (-6 : Int32)) hx hb d_Mo_findMoves_50 (by decide) ?_
          obtain rfl := Option.some.inj et4
          exact kJ52_2 _ _ _ hS (lv_sub hl [0, 1, 2] rfl)
        · rw [if_neg c38_4] at et4
          refine lv_aload_n hx hb d_Mo_findMoves_41 rfl (lv_at hl 0 rfl) ?_
          refine lv_iload_n hx hb d_Mo_findMoves_42 rfl (lv_at hl 1 rfl) ?_
          refine lv_iload_n hx hb d_Mo_findMoves_43 rfl (lv_at hl 2 rfl) ?_
          obtain ⟨t6, et6, et4⟩ := bS et4
          refine r_callVi (x := t6) C hS cv_Mo_189 (c_Mo_movedOf l base D cI cZ h l0 l1 l2 et6) (o_Mo_movedOf et6) (rest := [.int (((445 : Int32) * l1) + l2), .ref (base + t2)]) rfl hl.1 rfl (Nat.le_of_ble_eq_true rfl) ⟨(Nat.le_of_ble_eq_true rfl), (Nat.le_of_ble_eq_true rfl)⟩ ⟨(Nat.le_of_ble_eq_true rfl), (Nat.le_of_ble_eq_true rfl)⟩ d_Mo_findMoves_44 (fun H locs hS => ?_)
          refine lv_goto (tgt := 52) hx hb d_Mo_findMoves_47 (by decide) ?_
          obtain rfl := Option.some.inj et4
          exact kJ52_2 _ _ _ hS (lv_sub hl [0, 1, 2] rfl)
def f_Mo_findMoves (h : Hp) (l0 : Nat) (l1 : Int32) : Option Hp :=
  ck h 9 l0 (
    (f_Mo_findPairs h l0 l1).bind fun h1 =>
    f_Mo_findMoves_7 l0 l1 FU (0 : Int32) h1
  )
theorem o_Mo_findMoves {h : Hp} {l0 : Nat} {l1 : Int32} {r : Hp} (hM : f_Mo_findMoves h l0 l1 = some r) : isO h 9 l0 = true := by
  unfold f_Mo_findMoves at hM
  exact (ck_some hM).1
set_option maxHeartbeats 4000000 in
set_option maxRecDepth 100000 in
theorem t_Mo_findMoves {h : Hp} {l0 : Nat} {l1 : Int32} {r : Hp} (C : Cx base D cI cZ b_Mo_findMoves 3 "MovedFoldersModel" "findMoves" none p s m args meth c) (hM : f_Mo_findMoves h l0 l1 = some r) (H : Heap) (locs : List Loc) (ls : Array Slot) (hS : RS base D cI cZ s H locs h) (hl : lv_has ls 3 [(0, .ref (base + l0)), (1, .int l1)]) : Wg l base D cI cZ 5 124 0 0 r none p e s m args below meth c H locs 0 0 (F0 m 0 ls []) := by
  have hx := C.1
  have hb := C.2.1
  unfold f_Mo_findMoves at hM
  replace hM := (ck_some hM).2
  refine lv_aload_n hx hb d_Mo_findMoves_0 rfl (lv_at hl 0 rfl) ?_
  refine lv_iload_n hx hb d_Mo_findMoves_1 rfl (lv_at hl 1 rfl) ?_
  obtain ⟨h1, eh1, hM⟩ := bS hM
  refine r_callVv C hS cv_Mo_172 (c_Mo_findPairs l base D cI cZ h l0 l1 eh1) (o_Mo_findPairs eh1) (rest := []) rfl hl.1 rfl (Nat.le_of_ble_eq_true rfl) ⟨(Nat.le_of_ble_eq_true rfl), (Nat.le_of_ble_eq_true rfl)⟩ ⟨(Nat.le_of_ble_eq_true rfl), (Nat.le_of_ble_eq_true rfl)⟩ d_Mo_findMoves_2 (fun H locs hS => ?_)
  refine lv_iconst (v := (0 : Int32)) hx hb d_Mo_findMoves_5 (by decide) ?_
  refine lv_istore_n (lv' := [(2, .int (0 : Int32)), (0, .ref (base + l0)), (1, .int l1)]) hx hb d_Mo_findMoves_6 rfl hl (by decide) rfl (fun ls hl => ?_)
  exact t_Mo_findMoves_7  C  FU (0 : Int32) h1 hM _ _ _ hS (lv_sub hl [1, 2, 0] rfl)
theorem c_Mo_findMoves (l : Launch) (base : Nat) (D : va_G) (cI cZ : ClassId) (h : Hp) (l0 : Nat) (l1 : Int32) {r : Hp} (hM : f_Mo_findMoves h l0 l1 = some r) : Ct l base D cI cZ y_Mo_findMoves b_Mo_findMoves 3 none 5 124 0 0 h [.ref (base + l0), .int l1] r none :=
  ct_of (by decide) (Nat.le_of_ble_eq_true rfl) (fun p e s m below meth c ls C hS hl => t_Mo_findMoves C hM _ _ _ hS hl)
theorem d_Mo_findBoth_0 : decode b_Mo_findBoth 0 = .ok (.aload_n 0, 1) := by decide +kernel
theorem d_Mo_findBoth_1 : decode b_Mo_findBoth 1 = .ok (.iconst 1, 1) := by decide +kernel
theorem d_Mo_findBoth_2 : decode b_Mo_findBoth 2 = .ok (.invokevirtual 192, 3) := by decide +kernel
theorem d_Mo_findBoth_5 : decode b_Mo_findBoth 5 = .ok (.aload_n 0, 1) := by decide +kernel
theorem d_Mo_findBoth_6 : decode b_Mo_findBoth 6 = .ok (.iconst 2, 1) := by decide +kernel
theorem d_Mo_findBoth_7 : decode b_Mo_findBoth 7 = .ok (.invokevirtual 192, 3) := by decide +kernel
theorem d_Mo_findBoth_10 : decode b_Mo_findBoth 10 = .ok (.return_, 1) := by decide +kernel
def f_Mo_findBoth (h : Hp) (l0 : Nat) : Option Hp :=
  ck h 9 l0 (
    (f_Mo_findMoves h l0 (1 : Int32)).bind fun h1 =>
    (f_Mo_findMoves h1 l0 (2 : Int32)).bind fun h2 =>
    some h2
  )
theorem o_Mo_findBoth {h : Hp} {l0 : Nat} {r : Hp} (hM : f_Mo_findBoth h l0 = some r) : isO h 9 l0 = true := by
  unfold f_Mo_findBoth at hM
  exact (ck_some hM).1
set_option maxHeartbeats 4000000 in
set_option maxRecDepth 100000 in
theorem t_Mo_findBoth {h : Hp} {l0 : Nat} {r : Hp} (C : Cx base D cI cZ b_Mo_findBoth 1 "MovedFoldersModel" "findBoth" none p s m args meth c) (hM : f_Mo_findBoth h l0 = some r) (H : Heap) (locs : List Loc) (ls : Array Slot) (hS : RS base D cI cZ s H locs h) (hl : lv_has ls 1 [(0, .ref (base + l0))]) : Wg l base D cI cZ 6 146 0 0 r none p e s m args below meth c H locs 0 0 (F0 m 0 ls []) := by
  have hx := C.1
  have hb := C.2.1
  unfold f_Mo_findBoth at hM
  replace hM := (ck_some hM).2
  refine lv_aload_n hx hb d_Mo_findBoth_0 rfl (lv_at hl 0 rfl) ?_
  refine lv_iconst (v := (1 : Int32)) hx hb d_Mo_findBoth_1 (by decide) ?_
  obtain ⟨h1, eh1, hM⟩ := bS hM
  refine r_callVv C hS cv_Mo_192 (c_Mo_findMoves l base D cI cZ h l0 (1 : Int32) eh1) (o_Mo_findMoves eh1) (rest := []) rfl hl.1 rfl (Nat.le_of_ble_eq_true rfl) ⟨(Nat.le_of_ble_eq_true rfl), (Nat.le_of_ble_eq_true rfl)⟩ ⟨(Nat.le_of_ble_eq_true rfl), (Nat.le_of_ble_eq_true rfl)⟩ d_Mo_findBoth_2 (fun H locs hS => ?_)
  refine lv_aload_n hx hb d_Mo_findBoth_5 rfl (lv_at hl 0 rfl) ?_
  refine lv_iconst (v := (2 : Int32)) hx hb d_Mo_findBoth_6 (by decide) ?_
  obtain ⟨h2, eh2, hM⟩ := bS hM
  refine r_callVv C hS cv_Mo_192 (c_Mo_findMoves l base D cI cZ h1 l0 (2 : Int32) eh2) (o_Mo_findMoves eh2) (rest := []) rfl hl.1 rfl (Nat.le_of_ble_eq_true rfl) ⟨(Nat.le_of_ble_eq_true rfl), (Nat.le_of_ble_eq_true rfl)⟩ ⟨(Nat.le_of_ble_eq_true rfl), (Nat.le_of_ble_eq_true rfl)⟩ d_Mo_findBoth_7 (fun H locs hS => ?_)
  obtain rfl := Option.some.inj hM
  exact r_vret C hS d_Mo_findBoth_10
theorem c_Mo_findBoth (l : Launch) (base : Nat) (D : va_G) (cI cZ : ClassId) (h : Hp) (l0 : Nat) {r : Hp} (hM : f_Mo_findBoth h l0 = some r) : Ct l base D cI cZ y_Mo_findBoth b_Mo_findBoth 1 none 6 146 0 0 h [.ref (base + l0)] r none :=
  ct_of (by decide) (Nat.le_of_ble_eq_true rfl) (fun p e s m below meth c ls C hS hl => t_Mo_findBoth C hM _ _ _ hS hl)
theorem d_Mo_isStep_0 : decode b_Mo_isStep 0 = .ok (.aload_n 0, 1) := by decide +kernel
theorem d_Mo_isStep_1 : decode b_Mo_isStep 1 = .ok (.getfield 35, 3) := by decide +kernel
theorem d_Mo_isStep_4 : decode b_Mo_isStep 4 = .ok (.sipush 445, 3) := by decide +kernel
theorem d_Mo_isStep_7 : decode b_Mo_isStep 7 = .ok (.iload_n 2, 1) := by decide +kernel
theorem d_Mo_isStep_8 : decode b_Mo_isStep 8 = .ok (.imul, 1) := by decide +kernel
theorem d_Mo_isStep_9 : decode b_Mo_isStep 9 = .ok (.iload_n 1, 1) := by decide +kernel
theorem d_Mo_isStep_10 : decode b_Mo_isStep 10 = .ok (.iadd, 1) := by decide +kernel
theorem d_Mo_isStep_11 : decode b_Mo_isStep 11 = .ok (.iaload, 1) := by decide +kernel
theorem d_Mo_isStep_12 : decode b_Mo_isStep 12 = .ok (.istore_n 3, 1) := by decide +kernel
theorem d_Mo_isStep_13 : decode b_Mo_isStep 13 = .ok (.aload_n 0, 1) := by decide +kernel
theorem d_Mo_isStep_14 : decode b_Mo_isStep 14 = .ok (.getfield 38, 3) := by decide +kernel
theorem d_Mo_isStep_17 : decode b_Mo_isStep 17 = .ok (.iload_n 1, 1) := by decide +kernel
theorem d_Mo_isStep_18 : decode b_Mo_isStep 18 = .ok (.baload, 1) := by decide +kernel
theorem d_Mo_isStep_19 : decode b_Mo_isStep 19 = .ok (.ifCond .eq 16, 3) := by decide +kernel
theorem d_Mo_isStep_22 : decode b_Mo_isStep 22 = .ok (.iload_n 3, 1) := by decide +kernel
theorem d_Mo_isStep_23 : decode b_Mo_isStep 23 = .ok (.ifCond .lt 12, 3) := by decide +kernel
theorem d_Mo_isStep_26 : decode b_Mo_isStep 26 = .ok (.aload_n 0, 1) := by decide +kernel
theorem d_Mo_isStep_27 : decode b_Mo_isStep 27 = .ok (.getfield 38, 3) := by decide +kernel
theorem d_Mo_isStep_30 : decode b_Mo_isStep 30 = .ok (.iload_n 3, 1) := by decide +kernel
theorem d_Mo_isStep_31 : decode b_Mo_isStep 31 = .ok (.baload, 1) := by decide +kernel
theorem d_Mo_isStep_32 : decode b_Mo_isStep 32 = .ok (.ifCond .eq 5, 3) := by decide +kernel
theorem d_Mo_isStep_35 : decode b_Mo_isStep 35 = .ok (.iconst 0, 1) := by decide +kernel
theorem d_Mo_isStep_36 : decode b_Mo_isStep 36 = .ok (.ireturn, 1) := by decide +kernel
theorem d_Mo_isStep_37 : decode b_Mo_isStep 37 = .ok (.aload_n 0, 1) := by decide +kernel
theorem d_Mo_isStep_38 : decode b_Mo_isStep 38 = .ok (.getfield 38, 3) := by decide +kernel
theorem d_Mo_isStep_41 : decode b_Mo_isStep 41 = .ok (.iload_n 3, 1) := by decide +kernel
theorem d_Mo_isStep_42 : decode b_Mo_isStep 42 = .ok (.iconst 1, 1) := by decide +kernel
theorem d_Mo_isStep_43 : decode b_Mo_isStep 43 = .ok (.bastore, 1) := by decide +kernel
theorem d_Mo_isStep_44 : decode b_Mo_isStep 44 = .ok (.iconst 1, 1) := by decide +kernel
theorem d_Mo_isStep_45 : decode b_Mo_isStep 45 = .ok (.ireturn, 1) := by decide +kernel
def f_Mo_isStep (h : Hp) (l0 : Nat) (l1 : Int32) (l2 : Int32) : Option (Int32 × Hp) :=
  ck h 9 l0 (
    (gR h 9 l0 14).bind fun t1 =>
    (gA h false t1 (((445 : Int32) * l2) + l1)).bind fun t2 =>
    (gR h 9 l0 15).bind fun t3 =>
    (gA h true t3 l1).bind fun t4 =>
    if t4 = (0 : Int32) then (
      (rz (0 : Int32)).bind fun t5 => some (t5, h)
    ) else (
      if t2 < (0 : Int32) then (
        (rz (0 : Int32)).bind fun t6 => some (t6, h)
      ) else (
        (gR h 9 l0 15).bind fun t7 =>
        (gA h true t7 t2).bind fun t8 =>
        if t8 = (0 : Int32) then (
          (gR h 9 l0 15).bind fun t9 =>
          (sZ h t9 t2 (1 : Int32)).bind fun h10 =>
          (rz (1 : Int32)).bind fun t11 => some (t11, h10)
        ) else (
          (rz (0 : Int32)).bind fun t12 => some (t12, h)
        )
      )
    )
  )
theorem o_Mo_isStep {h : Hp} {l0 : Nat} {l1 : Int32} {l2 : Int32} {r : (Int32 × Hp)} (hM : f_Mo_isStep h l0 l1 l2 = some r) : isO h 9 l0 = true := by
  unfold f_Mo_isStep at hM
  exact (ck_some hM).1
set_option maxHeartbeats 4000000 in
set_option maxRecDepth 100000 in
theorem t_Mo_isStep {h : Hp} {l0 : Nat} {l1 : Int32} {l2 : Int32} {r : (Int32 × Hp)} (C : Cx base D cI cZ b_Mo_isStep 4 "MovedFoldersModel" "isStep" (some .boolean) p s m args meth c) (hM : f_Mo_isStep h l0 l1 l2 = some r) (H : Heap) (locs : List Loc) (ls : Array Slot) (hS : RS base D cI cZ s H locs h) (hl : lv_has ls 4 [(0, .ref (base + l0)), (1, .int l1), (2, .int l2)]) : Wg l base D cI cZ 0 0 0 0 r.2 (some (.int r.1)) p e s m args below meth c H locs 0 0 (F0 m 0 ls []) := by
  have hx := C.1
  have hb := C.2.1
  unfold f_Mo_isStep at hM
  replace hM := (ck_some hM).2
  refine lv_aload_n hx hb d_Mo_isStep_0 rfl (lv_at hl 0 rfl) ?_
  obtain ⟨t1, et1, hM⟩ := bS hM
  refine r_getR C hS fl_Mo_35 et1 d_Mo_isStep_1 ?_
  refine lv_sipush (v := (445 : Int32)) hx hb d_Mo_isStep_4 (by decide) ?_
  refine lv_iload_n hx hb d_Mo_isStep_7 rfl (lv_at hl 2 rfl) ?_
  refine lv_imul hx hb d_Mo_isStep_8 ?_
  refine lv_iload_n hx hb d_Mo_isStep_9 rfl (lv_at hl 1 rfl) ?_
  refine lv_iadd hx hb d_Mo_isStep_10 ?_
  obtain ⟨t2, et2, hM⟩ := bS hM
  refine r_iald C hS et2 d_Mo_isStep_11 ?_
  refine lv_istore_n (lv' := [(3, .int t2), (0, .ref (base + l0)), (1, .int l1), (2, .int l2)]) hx hb d_Mo_isStep_12 rfl hl (by decide) rfl (fun ls hl => ?_)
  refine lv_aload_n hx hb d_Mo_isStep_13 rfl (lv_at hl 1 rfl) ?_
  obtain ⟨t3, et3, hM⟩ := bS hM
  refine r_getR C hS fl_Mo_38 et3 d_Mo_isStep_14 ?_
  refine lv_iload_n hx hb d_Mo_isStep_17 rfl (lv_at hl 2 rfl) ?_
  obtain ⟨t4, et4, hM⟩ := bS hM
  refine r_zald C hS et4 d_Mo_isStep_18 ?_
  refine lv_if_eq (tgt := 35) hx hb d_Mo_isStep_19 (by decide) (fun c19_1 => ?_) (fun c19_1 => ?_)
  · rw [if_pos c19_1] at hM
    refine lv_iconst (v := (0 : Int32)) hx hb d_Mo_isStep_35 (by decide) ?_
    obtain ⟨t5, et5, hM⟩ := bS hM
    obtain rfl := Option.some.inj hM
    exact r_zret C hS et5 d_Mo_isStep_36
  · rw [if_neg c19_1] at hM
    refine lv_iload_n hx hb d_Mo_isStep_22 rfl (lv_at hl 0 rfl) ?_
    refine lv_if_lt (tgt := 35) hx hb d_Mo_isStep_23 (by decide) (fun c23_2 => ?_) (fun c23_2 => ?_)
    · rw [if_pos c23_2] at hM
      refine lv_iconst (v := (0 : Int32)) hx hb d_Mo_isStep_35 (by decide) ?_
      obtain ⟨t6, et6, hM⟩ := bS hM
      obtain rfl := Option.some.inj hM
      exact r_zret C hS et6 d_Mo_isStep_36
    · rw [if_neg c23_2] at hM
      refine lv_aload_n hx hb d_Mo_isStep_26 rfl (lv_at hl 1 rfl) ?_
      obtain ⟨t7, et7, hM⟩ := bS hM
      refine r_getR C hS fl_Mo_38 et7 d_Mo_isStep_27 ?_
      refine lv_iload_n hx hb d_Mo_isStep_30 rfl (lv_at hl 0 rfl) ?_
      obtain ⟨t8, et8, hM⟩ := bS hM
      refine r_zald C hS et8 d_Mo_isStep_31 ?_
      refine lv_if_eq (tgt := 37) hx hb d_Mo_isStep_32 (by decide) (fun c32_3 => ?_) (fun c32_3 => ?_)
      · rw [if_pos c32_3] at hM
        refine lv_aload_n hx hb d_Mo_isStep_37 rfl (lv_at hl 1 rfl) ?_
        obtain ⟨t9, et9, hM⟩ := bS hM
        refine r_getR C hS fl_Mo_38 et9 d_Mo_isStep_38 ?_
        refine lv_iload_n hx hb d_Mo_isStep_41 rfl (lv_at hl 0 rfl) ?_
        refine lv_iconst (v := (1 : Int32)) hx hb d_Mo_isStep_42 (by decide) ?_
        obtain ⟨h10, eh10, hM⟩ := bS hM
        refine r_zast C hS eh10 d_Mo_isStep_43 (fun H locs hS => ?_)
        refine lv_iconst (v := (1 : Int32)) hx hb d_Mo_isStep_44 (by decide) ?_
        obtain ⟨t11, et11, hM⟩ := bS hM
        obtain rfl := Option.some.inj hM
        exact r_zret C hS et11 d_Mo_isStep_45
      · rw [if_neg c32_3] at hM
        refine lv_iconst (v := (0 : Int32)) hx hb d_Mo_isStep_35 (by decide) ?_
        obtain ⟨t12, et12, hM⟩ := bS hM
        obtain rfl := Option.some.inj hM
        exact r_zret C hS et12 d_Mo_isStep_36
theorem c_Mo_isStep (l : Launch) (base : Nat) (D : va_G) (cI cZ : ClassId) (h : Hp) (l0 : Nat) (l1 : Int32) (l2 : Int32) {r : (Int32 × Hp)} (hM : f_Mo_isStep h l0 l1 l2 = some r) : Ct l base D cI cZ y_Mo_isStep b_Mo_isStep 4 (some .boolean) 0 0 0 0 h [.ref (base + l0), .int l1, .int l2] r.2 (some (.int r.1)) :=
  ct_of (by decide) (Nat.le_of_ble_eq_true rfl) (fun p e s m below meth c ls C hS hl => t_Mo_isStep C hM _ _ _ hS hl)
theorem d_Mo_isLoop_0 : decode b_Mo_isLoop 0 = .ok (.iconst 0, 1) := by decide +kernel
theorem d_Mo_isLoop_1 : decode b_Mo_isLoop 1 = .ok (.istore_n 3, 1) := by decide +kernel
theorem d_Mo_isLoop_2 : decode b_Mo_isLoop 2 = .ok (.iload_n 3, 1) := by decide +kernel
theorem d_Mo_isLoop_3 : decode b_Mo_isLoop 3 = .ok (.sipush 445, 3) := by decide +kernel
theorem d_Mo_isLoop_6 : decode b_Mo_isLoop 6 = .ok (.if_icmp .ge 16, 3) := by decide +kernel
theorem d_Mo_isLoop_9 : decode b_Mo_isLoop 9 = .ok (.aload_n 0, 1) := by decide +kernel
theorem d_Mo_isLoop_10 : decode b_Mo_isLoop 10 = .ok (.getfield 38, 3) := by decide +kernel
theorem d_Mo_isLoop_13 : decode b_Mo_isLoop 13 = .ok (.iload_n 3, 1) := by decide +kernel
theorem d_Mo_isLoop_14 : decode b_Mo_isLoop 14 = .ok (.iconst 0, 1) := by decide +kernel
theorem d_Mo_isLoop_15 : decode b_Mo_isLoop 15 = .ok (.bastore, 1) := by decide +kernel
theorem d_Mo_isLoop_16 : decode b_Mo_isLoop 16 = .ok (.iinc 3 1, 3) := by decide +kernel
theorem d_Mo_isLoop_19 : decode b_Mo_isLoop 19 = .ok (.goto (-17), 3) := by decide +kernel
theorem d_Mo_isLoop_22 : decode b_Mo_isLoop 22 = .ok (.aload_n 0, 1) := by decide +kernel
theorem d_Mo_isLoop_23 : decode b_Mo_isLoop 23 = .ok (.getfield 38, 3) := by decide +kernel
theorem d_Mo_isLoop_26 : decode b_Mo_isLoop 26 = .ok (.aload_n 0, 1) := by decide +kernel
theorem d_Mo_isLoop_27 : decode b_Mo_isLoop 27 = .ok (.getfield 35, 3) := by decide +kernel
theorem d_Mo_isLoop_30 : decode b_Mo_isLoop 30 = .ok (.sipush 445, 3) := by decide +kernel
theorem d_Mo_isLoop_33 : decode b_Mo_isLoop 33 = .ok (.iload_n 1, 1) := by decide +kernel
theorem d_Mo_isLoop_34 : decode b_Mo_isLoop 34 = .ok (.imul, 1) := by decide +kernel
theorem d_Mo_isLoop_35 : decode b_Mo_isLoop 35 = .ok (.iload_n 2, 1) := by decide +kernel
theorem d_Mo_isLoop_36 : decode b_Mo_isLoop 36 = .ok (.iadd, 1) := by decide +kernel
theorem d_Mo_isLoop_37 : decode b_Mo_isLoop 37 = .ok (.iaload, 1) := by decide +kernel
theorem d_Mo_isLoop_38 : decode b_Mo_isLoop 38 = .ok (.iconst 1, 1) := by decide +kernel
theorem d_Mo_isLoop_39 : decode b_Mo_isLoop 39 = .ok (.bastore, 1) := by decide +kernel
theorem d_Mo_isLoop_40 : decode b_Mo_isLoop 40 = .ok (.iconst 1, 1) := by decide +kernel
theorem d_Mo_isLoop_41 : decode b_Mo_isLoop 41 = .ok (.istore_n 3, 1) := by decide +kernel
theorem d_Mo_isLoop_42 : decode b_Mo_isLoop 42 = .ok (.iload_n 3, 1) := by decide +kernel
theorem d_Mo_isLoop_43 : decode b_Mo_isLoop 43 = .ok (.ifCond .eq 63, 3) := by decide +kernel
theorem d_Mo_isLoop_46 : decode b_Mo_isLoop 46 = .ok (.iconst 0, 1) := by decide +kernel
theorem d_Mo_isLoop_47 : decode b_Mo_isLoop 47 = .ok (.istore_n 3, 1) := by decide +kernel
theorem d_Mo_isLoop_48 : decode b_Mo_isLoop 48 = .ok (.iconst 0, 1) := by decide +kernel
theorem d_Mo_isLoop_49 : decode b_Mo_isLoop 49 = .ok (.istore 4, 2) := by decide +kernel
theorem d_Mo_isLoop_51 : decode b_Mo_isLoop 51 = .ok (.iload 4, 2) := by decide +kernel
theorem d_Mo_isLoop_53 : decode b_Mo_isLoop 53 = .ok (.sipush 445, 3) := by decide +kernel
theorem d_Mo_isLoop_56 : decode b_Mo_isLoop 56 = .ok (.if_icmp .ge 47, 3) := by decide +kernel
theorem d_Mo_isLoop_59 : decode b_Mo_isLoop 59 = .ok (.aload_n 0, 1) := by decide +kernel
theorem d_Mo_isLoop_60 : decode b_Mo_isLoop 60 = .ok (.iload 4, 2) := by decide +kernel
theorem d_Mo_isLoop_62 : decode b_Mo_isLoop 62 = .ok (.iconst 1, 1) := by decide +kernel
theorem d_Mo_isLoop_63 : decode b_Mo_isLoop 63 = .ok (.invokevirtual 195, 3) := by decide +kernel
theorem d_Mo_isLoop_66 : decode b_Mo_isLoop 66 = .ok (.istore 5, 2) := by decide +kernel
theorem d_Mo_isLoop_68 : decode b_Mo_isLoop 68 = .ok (.aload_n 0, 1) := by decide +kernel
theorem d_Mo_isLoop_69 : decode b_Mo_isLoop 69 = .ok (.iload 4, 2) := by decide +kernel
theorem d_Mo_isLoop_71 : decode b_Mo_isLoop 71 = .ok (.iconst 2, 1) := by decide +kernel
theorem d_Mo_isLoop_72 : decode b_Mo_isLoop 72 = .ok (.invokevirtual 195, 3) := by decide +kernel
theorem d_Mo_isLoop_75 : decode b_Mo_isLoop 75 = .ok (.istore 6, 2) := by decide +kernel
theorem d_Mo_isLoop_77 : decode b_Mo_isLoop 77 = .ok (.iload_n 3, 1) := by decide +kernel
theorem d_Mo_isLoop_78 : decode b_Mo_isLoop 78 = .ok (.ifCond .ne 13, 3) := by decide +kernel
theorem d_Mo_isLoop_81 : decode b_Mo_isLoop 81 = .ok (.iload 5, 2) := by decide +kernel
theorem d_Mo_isLoop_83 : decode b_Mo_isLoop 83 = .ok (.ifCond .ne 8, 3) := by decide +kernel
theorem d_Mo_isLoop_86 : decode b_Mo_isLoop 86 = .ok (.iload 6, 2) := by decide +kernel
theorem d_Mo_isLoop_88 : decode b_Mo_isLoop 88 = .ok (.ifCond .eq 7, 3) := by decide +kernel
theorem d_Mo_isLoop_91 : decode b_Mo_isLoop 91 = .ok (.iconst 1, 1) := by decide +kernel
theorem d_Mo_isLoop_92 : decode b_Mo_isLoop 92 = .ok (.goto 4, 3) := by decide +kernel
theorem d_Mo_isLoop_95 : decode b_Mo_isLoop 95 = .ok (.iconst 0, 1) := by decide +kernel
theorem d_Mo_isLoop_96 : decode b_Mo_isLoop 96 = .ok (.istore_n 3, 1) := by decide +kernel
theorem d_Mo_isLoop_97 : decode b_Mo_isLoop 97 = .ok (.iinc 4 1, 3) := by decide +kernel
theorem d_Mo_isLoop_100 : decode b_Mo_isLoop 100 = .ok (.goto (-49), 3) := by decide +kernel
theorem d_Mo_isLoop_103 : decode b_Mo_isLoop 103 = .ok (.goto (-61), 3) := by decide +kernel
theorem d_Mo_isLoop_106 : decode b_Mo_isLoop 106 = .ok (.aload_n 0, 1) := by decide +kernel
theorem d_Mo_isLoop_107 : decode b_Mo_isLoop 107 = .ok (.getfield 38, 3) := by decide +kernel
theorem d_Mo_isLoop_110 : decode b_Mo_isLoop 110 = .ok (.iload_n 2, 1) := by decide +kernel
theorem d_Mo_isLoop_111 : decode b_Mo_isLoop 111 = .ok (.baload, 1) := by decide +kernel
theorem d_Mo_isLoop_112 : decode b_Mo_isLoop 112 = .ok (.ireturn, 1) := by decide +kernel
def f_Mo_isLoop_51 (l0 : Nat) (l2 : Int32) (k42 : Int32 → Hp → Option (Int32 × Hp)) : Nat → Int32 → Int32 → Hp → Option (Int32 × Hp)
  | 0, _, _, _ => none
  | n + 1, l3, l4, h =>
    if (445 : Int32) ≤ l4 then (
      k42 l3 h
    ) else (
      (f_Mo_isStep h l0 l4 (1 : Int32)).bind fun q8 =>
      (f_Mo_isStep q8.2 l0 l4 (2 : Int32)).bind fun q9 =>
      f_Mo_isLoop_51 l0 l2 k42 n (if l3 = (0 : Int32) then (if q8.1 = (0 : Int32) then (if q9.1 = (0 : Int32) then ((0 : Int32)) else ((1 : Int32))) else ((1 : Int32))) else ((1 : Int32))) (l4 + (1 : Int32)) q9.2
    )
set_option maxHeartbeats 4000000 in
set_option maxRecDepth 100000 in
theorem t_Mo_isLoop_51 {l0 : Nat} {l2 : Int32} {k42 : Int32 → Hp → Option (Int32 × Hp)} {r : (Int32 × Hp)} (C : Cx base D cI cZ b_Mo_isLoop 7 "MovedFoldersModel" "isLoop" (some .boolean) p s m args meth c) (hk42 : ∀ (l3 : Int32) (h : Hp), k42 l3 h = some r → ∀ (H : Heap) (locs : List Loc) (ls : Array Slot), RS base D cI cZ s H locs h → lv_has ls 7 [(0, .ref (base + l0)), (2, .int l2), (3, .int l3)] → Wg l base D cI cZ 1 23 0 0 r.2 (some (.int r.1)) p e s m args below meth c H locs 0 0 (F0 m 42 ls [])) : ∀ (n : Nat) (l3 : Int32) (l4 : Int32) (h : Hp), f_Mo_isLoop_51 l0 l2 k42 n l3 l4 h = some r → ∀ (H : Heap) (locs : List Loc) (ls : Array Slot), RS base D cI cZ s H locs h → lv_has ls 7 [(0, .ref (base + l0)), (2, .int l2), (3, .int l3), (4, .int l4)] → Wg l base D cI cZ 1 23 0 0 r.2 (some (.int r.1)) p e s m args below meth c H locs 0 0 (F0 m 51 ls []) := by
  have hx := C.1
  have hb := C.2.1
  intro n
  induction n with
  | zero =>
    intro l3 l4 h hM
    rw [f_Mo_isLoop_51] at hM
    cases hM
  | succ n ih =>
    intro l3 l4 h hM H locs ls hS hl
    rw [f_Mo_isLoop_51] at hM
    refine lv_iload hx hb d_Mo_isLoop_51 (lv_at hl 3 rfl) ?_
    refine lv_sipush (v := (445 : Int32)) hx hb d_Mo_isLoop_53 (by decide) ?_
    refine lv_icmp_ge (tgt := 103) hx hb d_Mo_isLoop_56 (by decide) (fun c56_3 => ?_) (fun c56_3 => ?_)
    · rw [if_pos c56_3] at hM
      refine lv_goto (tgt := 42) hx hb d_Mo_isLoop_103 (by decide) ?_
      exact hk42 l3 h hM _ _ _ hS (lv_sub hl [0, 1, 2] rfl)
    · rw [if_neg c56_3] at hM
      refine lv_aload_n hx hb d_Mo_isLoop_59 rfl (lv_at hl 0 rfl) ?_
      refine lv_iload hx hb d_Mo_isLoop_60 (lv_at hl 3 rfl) ?_
      refine lv_iconst (v := (1 : Int32)) hx hb d_Mo_isLoop_62 (by decide) ?_
      obtain ⟨q8, eq8, hM⟩ := bS hM
      refine r_callVi (x := q8.1) C hS cv_Mo_195 (c_Mo_isStep l base D cI cZ h l0 l4 (1 : Int32) eq8) (o_Mo_isStep eq8) (rest := []) rfl hl.1 rfl (Nat.le_of_ble_eq_true rfl) ⟨(Nat.le_of_ble_eq_true rfl), (Nat.le_of_ble_eq_true rfl)⟩ ⟨(Nat.le_of_ble_eq_true rfl), (Nat.le_of_ble_eq_true rfl)⟩ d_Mo_isLoop_63 (fun H locs hS => ?_)
      refine lv_istore (lv' := [(5, .int q8.1), (0, .ref (base + l0)), (2, .int l2), (3, .int l3), (4, .int l4)]) hx hb d_Mo_isLoop_66 hl (by decide) rfl (fun ls hl => ?_)
      refine lv_aload_n hx hb d_Mo_isLoop_68 rfl (lv_at hl 1 rfl) ?_
      refine lv_iload hx hb d_Mo_isLoop_69 (lv_at hl 4 rfl) ?_
      refine lv_iconst (v := (2 : Int32)) hx hb d_Mo_isLoop_71 (by decide) ?_
      obtain ⟨q9, eq9, hM⟩ := bS hM
      refine r_callVi (x := q9.1) C hS cv_Mo_195 (c_Mo_isStep l base D cI cZ q8.2 l0 l4 (2 : Int32) eq9) (o_Mo_isStep eq9) (rest := []) rfl hl.1 rfl (Nat.le_of_ble_eq_true rfl) ⟨(Nat.le_of_ble_eq_true rfl), (Nat.le_of_ble_eq_true rfl)⟩ ⟨(Nat.le_of_ble_eq_true rfl), (Nat.le_of_ble_eq_true rfl)⟩ d_Mo_isLoop_72 (fun H locs hS => ?_)
      refine lv_istore (lv' := [(6, .int q9.1), (5, .int q8.1), (0, .ref (base + l0)), (2, .int l2), (3, .int l3), (4, .int l4)]) hx hb d_Mo_isLoop_75 hl (by decide) rfl (fun ls hl => ?_)
      refine lv_iload_n hx hb d_Mo_isLoop_77 rfl (lv_at hl 4 rfl) ?_
      have kJ96_4 : ∀ (H : Heap) (locs : List Loc) (ls : Array Slot), RS base D cI cZ s H locs q9.2 → lv_has ls 7 [(0, .ref (base + l0)), (2, .int l2), (4, .int l4)] → Wg l base D cI cZ 1 23 0 0 r.2 (some (.int r.1)) p e s m args below meth c H locs 0 0 (F0 m 96 ls [.int (if l3 = (0 : Int32) then (if q8.1 = (0 : Int32) then (if q9.1 = (0 : Int32) then ((0 : Int32)) else ((1 : Int32))) else ((1 : Int32))) else ((1 : Int32)))]) := by
        intro H locs ls hS hl
        refine lv_istore_n (lv' := [(3, .int (if l3 = (0 : Int32) then (if q8.1 = (0 : Int32) then (if q9.1 = (0 : Int32) then ((0 : Int32)) else ((1 : Int32))) else ((1 : Int32))) else ((1 : Int32)))), (0, .ref (base + l0)), (2, .int l2), (4, .int l4)]) hx hb d_Mo_isLoop_96 rfl hl (by decide) rfl (fun ls hl => ?_)
        refine lv_iinc (v := (l4 + (1 : Int32))) (lv' := [(4, .int (l4 + (1 : Int32))), (3, .int (if l3 = (0 : Int32) then (if q8.1 = (0 : Int32) then (if q9.1 = (0 : Int32) then ((0 : Int32)) else ((1 : Int32))) else ((1 : Int32))) else ((1 : Int32)))), (0, .ref (base + l0)), (2, .int l2)]) hx hb d_Mo_isLoop_97 hl (k := 3) rfl (by rw [oi_1]) (by decide) rfl (fun ls hl => ?_)
        refine lv_goto (tgt := 51) hx hb d_Mo_isLoop_100 (by decide) ?_
        exact ih (if l3 = (0 : Int32) then (if q8.1 = (0 : Int32) then (if q9.1 = (0 : Int32) then ((0 : Int32)) else ((1 : Int32))) else ((1 : Int32))) else ((1 : Int32))) (l4 + (1 : Int32)) q9.2 hM _ _ _ hS (lv_sub hl [2, 3, 1, 0] rfl)
      refine lv_if_ne (tgt := 91) hx hb d_Mo_isLoop_78 (by decide) (fun c78_5 => ?_) (fun c78_5 => ?_)
      · rw [if_neg c78_5] at kJ96_4
        refine lv_iconst (v := (1 : Int32)) hx hb d_Mo_isLoop_91 (by decide) ?_
        refine lv_goto (tgt := 96) hx hb d_Mo_isLoop_92 (by decide) ?_
        exact kJ96_4 _ _ _ hS (lv_sub hl [2, 3, 5] rfl)
      · rw [if_pos c78_5] at kJ96_4
        refine lv_iload hx hb d_Mo_isLoop_81 (lv_at hl 1 rfl) ?_
        refine lv_if_ne (tgt := 91) hx hb d_Mo_isLoop_83 (by decide) (fun c83_6 => ?_) (fun c83_6 => ?_)
        · rw [if_neg c83_6] at kJ96_4
          refine lv_iconst (v := (1 : Int32)) hx hb d_Mo_isLoop_91 (by decide) ?_
          refine lv_goto (tgt := 96) hx hb d_Mo_isLoop_92 (by decide) ?_
          exact kJ96_4 _ _ _ hS (lv_sub hl [2, 3, 5] rfl)
        · rw [if_pos c83_6] at kJ96_4
          refine lv_iload hx hb d_Mo_isLoop_86 (lv_at hl 0 rfl) ?_
          refine lv_if_eq (tgt := 95) hx hb d_Mo_isLoop_88 (by decide) (fun c88_7 => ?_) (fun c88_7 => ?_)
          · rw [if_pos c88_7] at kJ96_4
            refine lv_iconst (v := (0 : Int32)) hx hb d_Mo_isLoop_95 (by decide) ?_
            exact kJ96_4 _ _ _ hS (lv_sub hl [2, 3, 5] rfl)
          · rw [if_neg c88_7] at kJ96_4
            refine lv_iconst (v := (1 : Int32)) hx hb d_Mo_isLoop_91 (by decide) ?_
            refine lv_goto (tgt := 96) hx hb d_Mo_isLoop_92 (by decide) ?_
            exact kJ96_4 _ _ _ hS (lv_sub hl [2, 3, 5] rfl)
def f_Mo_isLoop_42 (l0 : Nat) (l2 : Int32) : Nat → Int32 → Hp → Option (Int32 × Hp)
  | 0, _, _ => none
  | n + 1, l3, h =>
    if l3 = (0 : Int32) then (
      (gR h 9 l0 15).bind fun t5 =>
      (gA h true t5 l2).bind fun t6 =>
      (rz t6).bind fun t7 => some (t7, h)
    ) else (
      f_Mo_isLoop_51 l0 l2 (fun l3 h => f_Mo_isLoop_42 l0 l2 n l3 h) FU (0 : Int32) (0 : Int32) h
    )
set_option maxHeartbeats 4000000 in
set_option maxRecDepth 100000 in
theorem t_Mo_isLoop_42 {l0 : Nat} {l2 : Int32} {r : (Int32 × Hp)} (C : Cx base D cI cZ b_Mo_isLoop 7 "MovedFoldersModel" "isLoop" (some .boolean) p s m args meth c)  : ∀ (n : Nat) (l3 : Int32) (h : Hp), f_Mo_isLoop_42 l0 l2 n l3 h = some r → ∀ (H : Heap) (locs : List Loc) (ls : Array Slot), RS base D cI cZ s H locs h → lv_has ls 7 [(0, .ref (base + l0)), (2, .int l2), (3, .int l3)] → Wg l base D cI cZ 1 23 0 0 r.2 (some (.int r.1)) p e s m args below meth c H locs 0 0 (F0 m 42 ls []) := by
  have hx := C.1
  have hb := C.2.1
  intro n
  induction n with
  | zero =>
    intro l3 h hM
    rw [f_Mo_isLoop_42] at hM
    cases hM
  | succ n ih =>
    intro l3 h hM H locs ls hS hl
    rw [f_Mo_isLoop_42] at hM
    refine lv_iload_n hx hb d_Mo_isLoop_42 rfl (lv_at hl 2 rfl) ?_
    refine lv_if_eq (tgt := 106) hx hb d_Mo_isLoop_43 (by decide) (fun c43_2 => ?_) (fun c43_2 => ?_)
    · rw [if_pos c43_2] at hM
      refine lv_aload_n hx hb d_Mo_isLoop_106 rfl (lv_at hl 0 rfl) ?_
      obtain ⟨t5, et5, hM⟩ := bS hM
      refine r_getR C hS fl_Mo_38 et5 d_Mo_isLoop_107 ?_
      refine lv_iload_n hx hb d_Mo_isLoop_110 rfl (lv_at hl 1 rfl) ?_
      obtain ⟨t6, et6, hM⟩ := bS hM
      refine r_zald C hS et6 d_Mo_isLoop_111 ?_
      obtain ⟨t7, et7, hM⟩ := bS hM
      obtain rfl := Option.some.inj hM
      exact r_zret C hS et7 d_Mo_isLoop_112
    · rw [if_neg c43_2] at hM
      refine lv_iconst (v := (0 : Int32)) hx hb d_Mo_isLoop_46 (by decide) ?_
      refine lv_istore_n (lv' := [(3, .int (0 : Int32)), (0, .ref (base + l0)), (2, .int l2)]) hx hb d_Mo_isLoop_47 rfl hl (by decide) rfl (fun ls hl => ?_)
      refine lv_iconst (v := (0 : Int32)) hx hb d_Mo_isLoop_48 (by decide) ?_
      refine lv_istore (lv' := [(4, .int (0 : Int32)), (3, .int (0 : Int32)), (0, .ref (base + l0)), (2, .int l2)]) hx hb d_Mo_isLoop_49 hl (by decide) rfl (fun ls hl => ?_)
      exact t_Mo_isLoop_51 (k42 := (fun l3 h => f_Mo_isLoop_42 l0 l2 n l3 h)) C ih FU (0 : Int32) (0 : Int32) h hM _ _ _ hS (lv_sub hl [2, 3, 1, 0] rfl)
def f_Mo_isLoop_2 (l0 : Nat) (l1 : Int32) (l2 : Int32) : Nat → Int32 → Hp → Option (Int32 × Hp)
  | 0, _, _ => none
  | n + 1, l3, h =>
    if (445 : Int32) ≤ l3 then (
      (gR h 9 l0 15).bind fun t1 =>
      (gR h 9 l0 14).bind fun t2 =>
      (gA h false t2 (((445 : Int32) * l1) + l2)).bind fun t3 =>
      (sZ h t1 t3 (1 : Int32)).bind fun h4 =>
      f_Mo_isLoop_42 l0 l2 FU (1 : Int32) h4
    ) else (
      (gR h 9 l0 15).bind fun t10 =>
      (sZ h t10 l3 (0 : Int32)).bind fun h11 =>
      f_Mo_isLoop_2 l0 l1 l2 n (l3 + (1 : Int32)) h11
    )
set_option maxHeartbeats 4000000 in
set_option maxRecDepth 100000 in
theorem t_Mo_isLoop_2 {l0 : Nat} {l1 : Int32} {l2 : Int32} {r : (Int32 × Hp)} (C : Cx base D cI cZ b_Mo_isLoop 7 "MovedFoldersModel" "isLoop" (some .boolean) p s m args meth c)  : ∀ (n : Nat) (l3 : Int32) (h : Hp), f_Mo_isLoop_2 l0 l1 l2 n l3 h = some r → ∀ (H : Heap) (locs : List Loc) (ls : Array Slot), RS base D cI cZ s H locs h → lv_has ls 7 [(0, .ref (base + l0)), (1, .int l1), (2, .int l2), (3, .int l3)] → Wg l base D cI cZ 1 23 0 0 r.2 (some (.int r.1)) p e s m args below meth c H locs 0 0 (F0 m 2 ls []) := by
  have hx := C.1
  have hb := C.2.1
  intro n
  induction n with
  | zero =>
    intro l3 h hM
    rw [f_Mo_isLoop_2] at hM
    cases hM
  | succ n ih =>
    intro l3 h hM H locs ls hS hl
    rw [f_Mo_isLoop_2] at hM
    refine lv_iload_n hx hb d_Mo_isLoop_2 rfl (lv_at hl 3 rfl) ?_
    refine lv_sipush (v := (445 : Int32)) hx hb d_Mo_isLoop_3 (by decide) ?_
    refine lv_icmp_ge (tgt := 22) hx hb d_Mo_isLoop_6 (by decide) (fun c6_1 => ?_) (fun c6_1 => ?_)
    · rw [if_pos c6_1] at hM
      refine lv_aload_n hx hb d_Mo_isLoop_22 rfl (lv_at hl 0 rfl) ?_
      obtain ⟨t1, et1, hM⟩ := bS hM
      refine r_getR C hS fl_Mo_38 et1 d_Mo_isLoop_23 ?_
      refine lv_aload_n hx hb d_Mo_isLoop_26 rfl (lv_at hl 0 rfl) ?_
      obtain ⟨t2, et2, hM⟩ := bS hM
      refine r_getR C hS fl_Mo_35 et2 d_Mo_isLoop_27 ?_
      refine lv_sipush (v := (445 : Int32)) hx hb d_Mo_isLoop_30 (by decide) ?_
      refine lv_iload_n hx hb d_Mo_isLoop_33 rfl (lv_at hl 1 rfl) ?_
      refine lv_imul hx hb d_Mo_isLoop_34 ?_
      refine lv_iload_n hx hb d_Mo_isLoop_35 rfl (lv_at hl 2 rfl) ?_
      refine lv_iadd hx hb d_Mo_isLoop_36 ?_
      obtain ⟨t3, et3, hM⟩ := bS hM
      refine r_iald C hS et3 d_Mo_isLoop_37 ?_
      refine lv_iconst (v := (1 : Int32)) hx hb d_Mo_isLoop_38 (by decide) ?_
      obtain ⟨h4, eh4, hM⟩ := bS hM
      refine r_zast C hS eh4 d_Mo_isLoop_39 (fun H locs hS => ?_)
      refine lv_iconst (v := (1 : Int32)) hx hb d_Mo_isLoop_40 (by decide) ?_
      refine lv_istore_n (lv' := [(3, .int (1 : Int32)), (0, .ref (base + l0)), (1, .int l1), (2, .int l2)]) hx hb d_Mo_isLoop_41 rfl hl (by decide) rfl (fun ls hl => ?_)
      exact t_Mo_isLoop_42  C  FU (1 : Int32) h4 hM _ _ _ hS (lv_sub hl [1, 3, 0] rfl)
    · rw [if_neg c6_1] at hM
      refine lv_aload_n hx hb d_Mo_isLoop_9 rfl (lv_at hl 0 rfl) ?_
      obtain ⟨t10, et10, hM⟩ := bS hM
      refine r_getR C hS fl_Mo_38 et10 d_Mo_isLoop_10 ?_
      refine lv_iload_n hx hb d_Mo_isLoop_13 rfl (lv_at hl 3 rfl) ?_
      refine lv_iconst (v := (0 : Int32)) hx hb d_Mo_isLoop_14 (by decide) ?_
      obtain ⟨h11, eh11, hM⟩ := bS hM
      refine r_zast C hS eh11 d_Mo_isLoop_15 (fun H locs hS => ?_)
      refine lv_iinc (v := (l3 + (1 : Int32))) (lv' := [(3, .int (l3 + (1 : Int32))), (0, .ref (base + l0)), (1, .int l1), (2, .int l2)]) hx hb d_Mo_isLoop_16 hl (k := 3) rfl (by rw [oi_1]) (by decide) rfl (fun ls hl => ?_)
      refine lv_goto (tgt := 2) hx hb d_Mo_isLoop_19 (by decide) ?_
      exact ih (l3 + (1 : Int32)) h11 hM _ _ _ hS (lv_sub hl [1, 2, 3, 0] rfl)
def f_Mo_isLoop (h : Hp) (l0 : Nat) (l1 : Int32) (l2 : Int32) : Option (Int32 × Hp) :=
  ck h 9 l0 (
    f_Mo_isLoop_2 l0 l1 l2 FU (0 : Int32) h
  )
theorem o_Mo_isLoop {h : Hp} {l0 : Nat} {l1 : Int32} {l2 : Int32} {r : (Int32 × Hp)} (hM : f_Mo_isLoop h l0 l1 l2 = some r) : isO h 9 l0 = true := by
  unfold f_Mo_isLoop at hM
  exact (ck_some hM).1
set_option maxHeartbeats 4000000 in
set_option maxRecDepth 100000 in
theorem t_Mo_isLoop {h : Hp} {l0 : Nat} {l1 : Int32} {l2 : Int32} {r : (Int32 × Hp)} (C : Cx base D cI cZ b_Mo_isLoop 7 "MovedFoldersModel" "isLoop" (some .boolean) p s m args meth c) (hM : f_Mo_isLoop h l0 l1 l2 = some r) (H : Heap) (locs : List Loc) (ls : Array Slot) (hS : RS base D cI cZ s H locs h) (hl : lv_has ls 7 [(0, .ref (base + l0)), (1, .int l1), (2, .int l2)]) : Wg l base D cI cZ 1 23 0 0 r.2 (some (.int r.1)) p e s m args below meth c H locs 0 0 (F0 m 0 ls []) := by
  have hx := C.1
  have hb := C.2.1
  unfold f_Mo_isLoop at hM
  replace hM := (ck_some hM).2
  refine lv_iconst (v := (0 : Int32)) hx hb d_Mo_isLoop_0 (by decide) ?_
  refine lv_istore_n (lv' := [(3, .int (0 : Int32)), (0, .ref (base + l0)), (1, .int l1), (2, .int l2)]) hx hb d_Mo_isLoop_1 rfl hl (by decide) rfl (fun ls hl => ?_)
  exact t_Mo_isLoop_2  C  FU (0 : Int32) h hM _ _ _ hS (lv_sub hl [1, 2, 3, 0] rfl)
theorem c_Mo_isLoop (l : Launch) (base : Nat) (D : va_G) (cI cZ : ClassId) (h : Hp) (l0 : Nat) (l1 : Int32) (l2 : Int32) {r : (Int32 × Hp)} (hM : f_Mo_isLoop h l0 l1 l2 = some r) : Ct l base D cI cZ y_Mo_isLoop b_Mo_isLoop 7 (some .boolean) 1 23 0 0 h [.ref (base + l0), .int l1, .int l2] r.2 (some (.int r.1)) :=
  ct_of (by decide) (Nat.le_of_ble_eq_true rfl) (fun p e s m below meth c ls C hS hl => t_Mo_isLoop C hM _ _ _ hS hl)
theorem d_Mo_votes_0 : decode b_Mo_votes 0 = .ok (.iload_n 1, 1) := by decide +kernel
theorem d_Mo_votes_1 : decode b_Mo_votes 1 = .ok (.invokestatic 135, 3) := by decide +kernel
theorem d_Mo_votes_4 : decode b_Mo_votes 4 = .ok (.ifCond .ne 5, 3) := by decide +kernel
theorem d_Mo_votes_7 : decode b_Mo_votes 7 = .ok (.iconst (-1), 1) := by decide +kernel
theorem d_Mo_votes_8 : decode b_Mo_votes 8 = .ok (.ireturn, 1) := by decide +kernel
theorem d_Mo_votes_9 : decode b_Mo_votes 9 = .ok (.iload_n 2, 1) := by decide +kernel
theorem d_Mo_votes_10 : decode b_Mo_votes 10 = .ok (.invokestatic 186, 3) := by decide +kernel
theorem d_Mo_votes_13 : decode b_Mo_votes 13 = .ok (.ifCond .eq 15, 3) := by decide +kernel
theorem d_Mo_votes_16 : decode b_Mo_votes 16 = .ok (.iload_n 3, 1) := by decide +kernel
theorem d_Mo_votes_17 : decode b_Mo_votes 17 = .ok (.invokestatic 186, 3) := by decide +kernel
theorem d_Mo_votes_20 : decode b_Mo_votes 20 = .ok (.ifCond .eq 8, 3) := by decide +kernel
theorem d_Mo_votes_23 : decode b_Mo_votes 23 = .ok (.iload_n 2, 1) := by decide +kernel
theorem d_Mo_votes_24 : decode b_Mo_votes 24 = .ok (.iload_n 3, 1) := by decide +kernel
theorem d_Mo_votes_25 : decode b_Mo_votes 25 = .ok (.if_icmp .ne 6, 3) := by decide +kernel
theorem d_Mo_votes_28 : decode b_Mo_votes 28 = .ok (.bipush (-2), 2) := by decide +kernel
theorem d_Mo_votes_30 : decode b_Mo_votes 30 = .ok (.ireturn, 1) := by decide +kernel
theorem d_Mo_votes_31 : decode b_Mo_votes 31 = .ok (.aload_n 0, 1) := by decide +kernel
theorem d_Mo_votes_32 : decode b_Mo_votes 32 = .ok (.iload_n 1, 1) := by decide +kernel
theorem d_Mo_votes_33 : decode b_Mo_votes 33 = .ok (.invokevirtual 172, 3) := by decide +kernel
theorem d_Mo_votes_36 : decode b_Mo_votes 36 = .ok (.aload_n 0, 1) := by decide +kernel
theorem d_Mo_votes_37 : decode b_Mo_votes 37 = .ok (.iload_n 1, 1) := by decide +kernel
theorem d_Mo_votes_38 : decode b_Mo_votes 38 = .ok (.iload_n 2, 1) := by decide +kernel
theorem d_Mo_votes_39 : decode b_Mo_votes 39 = .ok (.iload_n 3, 1) := by decide +kernel
theorem d_Mo_votes_40 : decode b_Mo_votes 40 = .ok (.invokevirtual 179, 3) := by decide +kernel
theorem d_Mo_votes_43 : decode b_Mo_votes 43 = .ok (.ireturn, 1) := by decide +kernel
def f_Mo_votes (h : Hp) (l0 : Nat) (l1 : Int32) (l2 : Int32) (l3 : Int32) : Option (Int32 × Hp) :=
  ck h 9 l0 (
    (f_Mo_isSide l1).bind fun t1 =>
    if t1 = (0 : Int32) then (
      some ((-1 : Int32), h)
    ) else (
      (f_Mo_isFolder l2).bind fun t2 =>
      if t2 = (0 : Int32) then (
        some ((-2 : Int32), h)
      ) else (
        (f_Mo_isFolder l3).bind fun t3 =>
        if t3 = (0 : Int32) then (
          some ((-2 : Int32), h)
        ) else (
          if l2 = l3 then (
            some ((-2 : Int32), h)
          ) else (
            (f_Mo_findPairs h l0 l1).bind fun h4 =>
            (f_Mo_votesOf h4 l0 l1 l2 l3).bind fun t5 =>
            some (t5, h4)
          )
        )
      )
    )
  )
theorem o_Mo_votes {h : Hp} {l0 : Nat} {l1 : Int32} {l2 : Int32} {l3 : Int32} {r : (Int32 × Hp)} (hM : f_Mo_votes h l0 l1 l2 l3 = some r) : isO h 9 l0 = true := by
  unfold f_Mo_votes at hM
  exact (ck_some hM).1
set_option maxHeartbeats 4000000 in
set_option maxRecDepth 100000 in
theorem t_Mo_votes {h : Hp} {l0 : Nat} {l1 : Int32} {l2 : Int32} {l3 : Int32} {r : (Int32 × Hp)} (C : Cx base D cI cZ b_Mo_votes 4 "MovedFoldersModel" "votes" (some .int) p s m args meth c) (hM : f_Mo_votes h l0 l1 l2 l3 = some r) (H : Heap) (locs : List Loc) (ls : Array Slot) (hS : RS base D cI cZ s H locs h) (hl : lv_has ls 4 [(0, .ref (base + l0)), (1, .int l1), (2, .int l2), (3, .int l3)]) : Wg l base D cI cZ 5 124 0 0 r.2 (some (.int r.1)) p e s m args below meth c H locs 0 0 (F0 m 0 ls []) := by
  have hx := C.1
  have hb := C.2.1
  unfold f_Mo_votes at hM
  replace hM := (ck_some hM).2
  refine lv_iload_n hx hb d_Mo_votes_0 rfl (lv_at hl 1 rfl) ?_
  obtain ⟨t1, et1, hM⟩ := bS hM
  refine r_callSi (x := t1) C hS cs_Mo_135 (c_Mo_isSide l base D cI cZ h l1 et1) (rest := []) rfl hl.1 rfl (Nat.le_of_ble_eq_true rfl) ⟨(Nat.le_of_ble_eq_true rfl), (Nat.le_of_ble_eq_true rfl)⟩ ⟨(Nat.le_of_ble_eq_true rfl), (Nat.le_of_ble_eq_true rfl)⟩ d_Mo_votes_1 (fun H locs hS => ?_)
  refine lv_if_ne (tgt := 9) hx hb d_Mo_votes_4 (by decide) (fun c4_1 => ?_) (fun c4_1 => ?_)
  · rw [if_neg c4_1] at hM
    refine lv_iload_n hx hb d_Mo_votes_9 rfl (lv_at hl 2 rfl) ?_
    obtain ⟨t2, et2, hM⟩ := bS hM
    refine r_callSi (x := t2) C hS cs_Mo_186 (c_Mo_isFolder l base D cI cZ h l2 et2) (rest := []) rfl hl.1 rfl (Nat.le_of_ble_eq_true rfl) ⟨(Nat.le_of_ble_eq_true rfl), (Nat.le_of_ble_eq_true rfl)⟩ ⟨(Nat.le_of_ble_eq_true rfl), (Nat.le_of_ble_eq_true rfl)⟩ d_Mo_votes_10 (fun H locs hS => ?_)
    refine lv_if_eq (tgt := 28) hx hb d_Mo_votes_13 (by decide) (fun c13_2 => ?_) (fun c13_2 => ?_)
    · rw [if_pos c13_2] at hM
      refine lv_bipush (v := (-2 : Int32)) hx hb d_Mo_votes_28 (by decide) ?_
      obtain rfl := Option.some.inj hM
      exact r_iret C hS d_Mo_votes_30
    · rw [if_neg c13_2] at hM
      refine lv_iload_n hx hb d_Mo_votes_16 rfl (lv_at hl 3 rfl) ?_
      obtain ⟨t3, et3, hM⟩ := bS hM
      refine r_callSi (x := t3) C hS cs_Mo_186 (c_Mo_isFolder l base D cI cZ h l3 et3) (rest := []) rfl hl.1 rfl (Nat.le_of_ble_eq_true rfl) ⟨(Nat.le_of_ble_eq_true rfl), (Nat.le_of_ble_eq_true rfl)⟩ ⟨(Nat.le_of_ble_eq_true rfl), (Nat.le_of_ble_eq_true rfl)⟩ d_Mo_votes_17 (fun H locs hS => ?_)
      refine lv_if_eq (tgt := 28) hx hb d_Mo_votes_20 (by decide) (fun c20_3 => ?_) (fun c20_3 => ?_)
      · rw [if_pos c20_3] at hM
        refine lv_bipush (v := (-2 : Int32)) hx hb d_Mo_votes_28 (by decide) ?_
        obtain rfl := Option.some.inj hM
        exact r_iret C hS d_Mo_votes_30
      · rw [if_neg c20_3] at hM
        refine lv_iload_n hx hb d_Mo_votes_23 rfl (lv_at hl 2 rfl) ?_
        refine lv_iload_n hx hb d_Mo_votes_24 rfl (lv_at hl 3 rfl) ?_
        refine lv_icmp_ne (tgt := 31) hx hb d_Mo_votes_25 (by decide) (fun c25_4 => ?_) (fun c25_4 => ?_)
        · rw [if_neg c25_4] at hM
          refine lv_aload_n hx hb d_Mo_votes_31 rfl (lv_at hl 0 rfl) ?_
          refine lv_iload_n hx hb d_Mo_votes_32 rfl (lv_at hl 1 rfl) ?_
          obtain ⟨h4, eh4, hM⟩ := bS hM
          refine r_callVv C hS cv_Mo_172 (c_Mo_findPairs l base D cI cZ h l0 l1 eh4) (o_Mo_findPairs eh4) (rest := []) rfl hl.1 rfl (Nat.le_of_ble_eq_true rfl) ⟨(Nat.le_of_ble_eq_true rfl), (Nat.le_of_ble_eq_true rfl)⟩ ⟨(Nat.le_of_ble_eq_true rfl), (Nat.le_of_ble_eq_true rfl)⟩ d_Mo_votes_33 (fun H locs hS => ?_)
          refine lv_aload_n hx hb d_Mo_votes_36 rfl (lv_at hl 0 rfl) ?_
          refine lv_iload_n hx hb d_Mo_votes_37 rfl (lv_at hl 1 rfl) ?_
          refine lv_iload_n hx hb d_Mo_votes_38 rfl (lv_at hl 2 rfl) ?_
          refine lv_iload_n hx hb d_Mo_votes_39 rfl (lv_at hl 3 rfl) ?_
          obtain ⟨t5, et5, hM⟩ := bS hM
          refine r_callVi (x := t5) C hS cv_Mo_179 (c_Mo_votesOf l base D cI cZ h4 l0 l1 l2 l3 et5) (o_Mo_votesOf et5) (rest := []) rfl hl.1 rfl (Nat.le_of_ble_eq_true rfl) ⟨(Nat.le_of_ble_eq_true rfl), (Nat.le_of_ble_eq_true rfl)⟩ ⟨(Nat.le_of_ble_eq_true rfl), (Nat.le_of_ble_eq_true rfl)⟩ d_Mo_votes_40 (fun H locs hS => ?_)
          obtain rfl := Option.some.inj hM
          exact r_iret C hS d_Mo_votes_43
        · rw [if_pos c25_4] at hM
          refine lv_bipush (v := (-2 : Int32)) hx hb d_Mo_votes_28 (by decide) ?_
          obtain rfl := Option.some.inj hM
          exact r_iret C hS d_Mo_votes_30
  · rw [if_pos c4_1] at hM
    refine lv_iconst (v := (-1 : Int32)) hx hb d_Mo_votes_7 (by decide) ?_
    obtain rfl := Option.some.inj hM
    exact r_iret C hS d_Mo_votes_8
theorem c_Mo_votes (l : Launch) (base : Nat) (D : va_G) (cI cZ : ClassId) (h : Hp) (l0 : Nat) (l1 : Int32) (l2 : Int32) (l3 : Int32) {r : (Int32 × Hp)} (hM : f_Mo_votes h l0 l1 l2 l3 = some r) : Ct l base D cI cZ y_Mo_votes b_Mo_votes 4 (some .int) 5 124 0 0 h [.ref (base + l0), .int l1, .int l2, .int l3] r.2 (some (.int r.1)) :=
  ct_of (by decide) (Nat.le_of_ble_eq_true rfl) (fun p e s m below meth c ls C hS hl => t_Mo_votes C hM _ _ _ hS hl)
theorem d_Mo_moved_0 : decode b_Mo_moved 0 = .ok (.iload_n 1, 1) := by decide +kernel
theorem d_Mo_moved_1 : decode b_Mo_moved 1 = .ok (.invokestatic 135, 3) := by decide +kernel
theorem d_Mo_moved_4 : decode b_Mo_moved 4 = .ok (.ifCond .ne 5, 3) := by decide +kernel
theorem d_Mo_moved_7 : decode b_Mo_moved 7 = .ok (.iconst (-1), 1) := by decide +kernel
theorem d_Mo_moved_8 : decode b_Mo_moved 8 = .ok (.ireturn, 1) := by decide +kernel
theorem d_Mo_moved_9 : decode b_Mo_moved 9 = .ok (.iload_n 2, 1) := by decide +kernel
theorem d_Mo_moved_10 : decode b_Mo_moved 10 = .ok (.invokestatic 186, 3) := by decide +kernel
theorem d_Mo_moved_13 : decode b_Mo_moved 13 = .ok (.ifCond .eq 13, 3) := by decide +kernel
theorem d_Mo_moved_16 : decode b_Mo_moved 16 = .ok (.iload_n 3, 1) := by decide +kernel
theorem d_Mo_moved_17 : decode b_Mo_moved 17 = .ok (.i2l, 1) := by decide +kernel
theorem d_Mo_moved_18 : decode b_Mo_moved 18 = .ok (.lconst 0, 1) := by decide +kernel
theorem d_Mo_moved_19 : decode b_Mo_moved 19 = .ok (.lconst 1, 1) := by decide +kernel
theorem d_Mo_moved_20 : decode b_Mo_moved 20 = .ok (.invokestatic 65, 3) := by decide +kernel
theorem d_Mo_moved_23 : decode b_Mo_moved 23 = .ok (.ifCond .ne 6, 3) := by decide +kernel
theorem d_Mo_moved_26 : decode b_Mo_moved 26 = .ok (.bipush (-2), 2) := by decide +kernel
theorem d_Mo_moved_28 : decode b_Mo_moved 28 = .ok (.ireturn, 1) := by decide +kernel
theorem d_Mo_moved_29 : decode b_Mo_moved 29 = .ok (.aload_n 0, 1) := by decide +kernel
theorem d_Mo_moved_30 : decode b_Mo_moved 30 = .ok (.invokevirtual 198, 3) := by decide +kernel
theorem d_Mo_moved_33 : decode b_Mo_moved 33 = .ok (.aload_n 0, 1) := by decide +kernel
theorem d_Mo_moved_34 : decode b_Mo_moved 34 = .ok (.getfield 35, 3) := by decide +kernel
theorem d_Mo_moved_37 : decode b_Mo_moved 37 = .ok (.sipush 445, 3) := by decide +kernel
theorem d_Mo_moved_40 : decode b_Mo_moved 40 = .ok (.iload_n 1, 1) := by decide +kernel
theorem d_Mo_moved_41 : decode b_Mo_moved 41 = .ok (.imul, 1) := by decide +kernel
theorem d_Mo_moved_42 : decode b_Mo_moved 42 = .ok (.iload_n 2, 1) := by decide +kernel
theorem d_Mo_moved_43 : decode b_Mo_moved 43 = .ok (.iadd, 1) := by decide +kernel
theorem d_Mo_moved_44 : decode b_Mo_moved 44 = .ok (.iaload, 1) := by decide +kernel
theorem d_Mo_moved_45 : decode b_Mo_moved 45 = .ok (.istore 4, 2) := by decide +kernel
theorem d_Mo_moved_47 : decode b_Mo_moved 47 = .ok (.iload 4, 2) := by decide +kernel
theorem d_Mo_moved_49 : decode b_Mo_moved 49 = .ok (.ifCond .lt 7, 3) := by decide +kernel
theorem d_Mo_moved_52 : decode b_Mo_moved 52 = .ok (.iload_n 3, 1) := by decide +kernel
theorem d_Mo_moved_53 : decode b_Mo_moved 53 = .ok (.ifCond .ne 8, 3) := by decide +kernel
theorem d_Mo_moved_56 : decode b_Mo_moved 56 = .ok (.iload 4, 2) := by decide +kernel
theorem d_Mo_moved_58 : decode b_Mo_moved 58 = .ok (.goto 17, 3) := by decide +kernel
theorem d_Mo_moved_61 : decode b_Mo_moved 61 = .ok (.aload_n 0, 1) := by decide +kernel
theorem d_Mo_moved_62 : decode b_Mo_moved 62 = .ok (.iload_n 1, 1) := by decide +kernel
theorem d_Mo_moved_63 : decode b_Mo_moved 63 = .ok (.iload_n 2, 1) := by decide +kernel
theorem d_Mo_moved_64 : decode b_Mo_moved 64 = .ok (.invokevirtual 201, 3) := by decide +kernel
theorem d_Mo_moved_67 : decode b_Mo_moved 67 = .ok (.ifCond .eq 7, 3) := by decide +kernel
theorem d_Mo_moved_70 : decode b_Mo_moved 70 = .ok (.iconst 1, 1) := by decide +kernel
theorem d_Mo_moved_71 : decode b_Mo_moved 71 = .ok (.goto 4, 3) := by decide +kernel
theorem d_Mo_moved_74 : decode b_Mo_moved 74 = .ok (.iconst 0, 1) := by decide +kernel
theorem d_Mo_moved_75 : decode b_Mo_moved 75 = .ok (.ireturn, 1) := by decide +kernel
def f_Mo_moved (h : Hp) (l0 : Nat) (l1 : Int32) (l2 : Int32) (l3 : Int32) : Option (Int32 × Hp) :=
  ck h 9 l0 (
    (f_Mo_isSide l1).bind fun t1 =>
    if t1 = (0 : Int32) then (
      some ((-1 : Int32), h)
    ) else (
      (f_Mo_isFolder l2).bind fun t2 =>
      if t2 = (0 : Int32) then (
        some ((-2 : Int32), h)
      ) else (
        (f_Mo_in (l3.toInt64) (0 : Int64) (1 : Int64)).bind fun t3 =>
        if t3 = (0 : Int32) then (
          some ((-2 : Int32), h)
        ) else (
          (f_Mo_findBoth h l0).bind fun h4 =>
          (gR h4 9 l0 14).bind fun t5 =>
          (gA h4 false t5 (((445 : Int32) * l1) + l2)).bind fun t6 =>
          (
            if t6 < (0 : Int32) then (
              some (t6, h4)
            ) else (
              if l3 = (0 : Int32) then (
                some (t6, h4)
              ) else (
                (f_Mo_isLoop h4 l0 l1 l2).bind fun q8 =>
                if q8.1 = (0 : Int32) then (
                  some ((0 : Int32), q8.2)
                ) else (
                  some ((1 : Int32), q8.2)
                )
              )
            )
          ).bind fun q7 =>
          some (q7.1, q7.2)
        )
      )
    )
  )
theorem o_Mo_moved {h : Hp} {l0 : Nat} {l1 : Int32} {l2 : Int32} {l3 : Int32} {r : (Int32 × Hp)} (hM : f_Mo_moved h l0 l1 l2 l3 = some r) : isO h 9 l0 = true := by
  unfold f_Mo_moved at hM
  exact (ck_some hM).1
set_option maxHeartbeats 4000000 in
set_option maxRecDepth 100000 in
theorem t_Mo_moved {h : Hp} {l0 : Nat} {l1 : Int32} {l2 : Int32} {l3 : Int32} {r : (Int32 × Hp)} (C : Cx base D cI cZ b_Mo_moved 5 "MovedFoldersModel" "moved" (some .int) p s m args meth c) (hM : f_Mo_moved h l0 l1 l2 l3 = some r) (H : Heap) (locs : List Loc) (ls : Array Slot) (hS : RS base D cI cZ s H locs h) (hl : lv_has ls 5 [(0, .ref (base + l0)), (1, .int l1), (2, .int l2), (3, .int l3)]) : Wg l base D cI cZ 7 166 0 0 r.2 (some (.int r.1)) p e s m args below meth c H locs 0 0 (F0 m 0 ls []) := by
  have hx := C.1
  have hb := C.2.1
  unfold f_Mo_moved at hM
  replace hM := (ck_some hM).2
  refine lv_iload_n hx hb d_Mo_moved_0 rfl (lv_at hl 1 rfl) ?_
  obtain ⟨t1, et1, hM⟩ := bS hM
  refine r_callSi (x := t1) C hS cs_Mo_135 (c_Mo_isSide l base D cI cZ h l1 et1) (rest := []) rfl hl.1 rfl (Nat.le_of_ble_eq_true rfl) ⟨(Nat.le_of_ble_eq_true rfl), (Nat.le_of_ble_eq_true rfl)⟩ ⟨(Nat.le_of_ble_eq_true rfl), (Nat.le_of_ble_eq_true rfl)⟩ d_Mo_moved_1 (fun H locs hS => ?_)
  refine lv_if_ne (tgt := 9) hx hb d_Mo_moved_4 (by decide) (fun c4_1 => ?_) (fun c4_1 => ?_)
  · rw [if_neg c4_1] at hM
    refine lv_iload_n hx hb d_Mo_moved_9 rfl (lv_at hl 2 rfl) ?_
    obtain ⟨t2, et2, hM⟩ := bS hM
    refine r_callSi (x := t2) C hS cs_Mo_186 (c_Mo_isFolder l base D cI cZ h l2 et2) (rest := []) rfl hl.1 rfl (Nat.le_of_ble_eq_true rfl) ⟨(Nat.le_of_ble_eq_true rfl), (Nat.le_of_ble_eq_true rfl)⟩ ⟨(Nat.le_of_ble_eq_true rfl), (Nat.le_of_ble_eq_true rfl)⟩ d_Mo_moved_10 (fun H locs hS => ?_)
    refine lv_if_eq (tgt := 26) hx hb d_Mo_moved_13 (by decide) (fun c13_2 => ?_) (fun c13_2 => ?_)
    · rw [if_pos c13_2] at hM
      refine lv_bipush (v := (-2 : Int32)) hx hb d_Mo_moved_26 (by decide) ?_
      obtain rfl := Option.some.inj hM
      exact r_iret C hS d_Mo_moved_28
    · rw [if_neg c13_2] at hM
      refine lv_iload_n hx hb d_Mo_moved_16 rfl (lv_at hl 3 rfl) ?_
      refine lv_i2l (v := (l3.toInt64)) hx hb d_Mo_moved_17 rfl ?_
      refine lv_lconst (v := (0 : Int64)) hx hb d_Mo_moved_18 (by decide) ?_
      refine lv_lconst (v := (1 : Int64)) hx hb d_Mo_moved_19 (by decide) ?_
      obtain ⟨t3, et3, hM⟩ := bS hM
      refine r_callSi (x := t3) C hS cs_Mo_65 (c_Mo_in l base D cI cZ h (l3.toInt64) (0 : Int64) (1 : Int64) et3) (rest := []) rfl hl.1 rfl (Nat.le_of_ble_eq_true rfl) ⟨(Nat.le_of_ble_eq_true rfl), (Nat.le_of_ble_eq_true rfl)⟩ ⟨(Nat.le_of_ble_eq_true rfl), (Nat.le_of_ble_eq_true rfl)⟩ d_Mo_moved_20 (fun H locs hS => ?_)
      refine lv_if_ne (tgt := 29) hx hb d_Mo_moved_23 (by decide) (fun c23_3 => ?_) (fun c23_3 => ?_)
      · rw [if_neg c23_3] at hM
        refine lv_aload_n hx hb d_Mo_moved_29 rfl (lv_at hl 0 rfl) ?_
        obtain ⟨h4, eh4, hM⟩ := bS hM
        refine r_callVv C hS cv_Mo_198 (c_Mo_findBoth l base D cI cZ h l0 eh4) (o_Mo_findBoth eh4) (rest := []) rfl hl.1 rfl (Nat.le_of_ble_eq_true rfl) ⟨(Nat.le_of_ble_eq_true rfl), (Nat.le_of_ble_eq_true rfl)⟩ ⟨(Nat.le_of_ble_eq_true rfl), (Nat.le_of_ble_eq_true rfl)⟩ d_Mo_moved_30 (fun H locs hS => ?_)
        refine lv_aload_n hx hb d_Mo_moved_33 rfl (lv_at hl 0 rfl) ?_
        obtain ⟨t5, et5, hM⟩ := bS hM
        refine r_getR C hS fl_Mo_35 et5 d_Mo_moved_34 ?_
        refine lv_sipush (v := (445 : Int32)) hx hb d_Mo_moved_37 (by decide) ?_
        refine lv_iload_n hx hb d_Mo_moved_40 rfl (lv_at hl 1 rfl) ?_
        refine lv_imul hx hb d_Mo_moved_41 ?_
        refine lv_iload_n hx hb d_Mo_moved_42 rfl (lv_at hl 2 rfl) ?_
        refine lv_iadd hx hb d_Mo_moved_43 ?_
        obtain ⟨t6, et6, hM⟩ := bS hM
        refine r_iald C hS et6 d_Mo_moved_44 ?_
        refine lv_istore (lv' := [(4, .int t6), (0, .ref (base + l0)), (1, .int l1), (2, .int l2), (3, .int l3)]) hx hb d_Mo_moved_45 hl (by decide) rfl (fun ls hl => ?_)
        refine lv_iload hx hb d_Mo_moved_47 (lv_at hl 0 rfl) ?_
        obtain ⟨q7, eq7, hM⟩ := bS hM
        have kJ75_4 : ∀ (H : Heap) (locs : List Loc) (ls : Array Slot), RS base D cI cZ s H locs q7.2 → lv_has ls 5 [] → Wg l base D cI cZ 7 166 0 0 r.2 (some (.int r.1)) p e s m args below meth c H locs 0 0 (F0 m 75 ls [.int q7.1]) := by
          intro H locs ls hS hl
          obtain rfl := Option.some.inj hM
          exact r_iret C hS d_Mo_moved_75
        refine lv_if_lt (tgt := 56) hx hb d_Mo_moved_49 (by decide) (fun c49_5 => ?_) (fun c49_5 => ?_)
        · rw [if_pos c49_5] at eq7
          refine lv_iload hx hb d_Mo_moved_56 (lv_at hl 0 rfl) ?_
          refine lv_goto (tgt := 75) hx hb d_Mo_moved_58 (by decide) ?_
          obtain rfl := Option.some.inj eq7
          exact kJ75_4 _ _ _ hS (lv_sub hl [] rfl)
        · rw [if_neg c49_5] at eq7
          refine lv_iload_n hx hb d_Mo_moved_52 rfl (lv_at hl 4 rfl) ?_
          refine lv_if_ne (tgt := 61) hx hb d_Mo_moved_53 (by decide) (fun c53_6 => ?_) (fun c53_6 => ?_)
          · rw [if_neg c53_6] at eq7
            refine lv_aload_n hx hb d_Mo_moved_61 rfl (lv_at hl 1 rfl) ?_
            refine lv_iload_n hx hb d_Mo_moved_62 rfl (lv_at hl 2 rfl) ?_
            refine lv_iload_n hx hb d_Mo_moved_63 rfl (lv_at hl 3 rfl) ?_
            obtain ⟨q8, eq8, eq7⟩ := bS eq7
            refine r_callVi (x := q8.1) C hS cv_Mo_201 (c_Mo_isLoop l base D cI cZ h4 l0 l1 l2 eq8) (o_Mo_isLoop eq8) (rest := []) rfl hl.1 rfl (Nat.le_of_ble_eq_true rfl) ⟨(Nat.le_of_ble_eq_true rfl), (Nat.le_of_ble_eq_true rfl)⟩ ⟨(Nat.le_of_ble_eq_true rfl), (Nat.le_of_ble_eq_true rfl)⟩ d_Mo_moved_64 (fun H locs hS => ?_)
            refine lv_if_eq (tgt := 74) hx hb d_Mo_moved_67 (by decide) (fun c67_7 => ?_) (fun c67_7 => ?_)
            · rw [if_pos c67_7] at eq7
              refine lv_iconst (v := (0 : Int32)) hx hb d_Mo_moved_74 (by decide) ?_
              obtain rfl := Option.some.inj eq7
              exact kJ75_4 _ _ _ hS (lv_sub hl [] rfl)
            · rw [if_neg c67_7] at eq7
              refine lv_iconst (v := (1 : Int32)) hx hb d_Mo_moved_70 (by decide) ?_
              refine lv_goto (tgt := 75) hx hb d_Mo_moved_71 (by decide) ?_
              obtain rfl := Option.some.inj eq7
              exact kJ75_4 _ _ _ hS (lv_sub hl [] rfl)
          · rw [if_pos c53_6] at eq7
            refine lv_iload hx hb d_Mo_moved_56 (lv_at hl 0 rfl) ?_
            refine lv_goto (tgt := 75) hx hb d_Mo_moved_58 (by decide) ?_
            obtain rfl := Option.some.inj eq7
            exact kJ75_4 _ _ _ hS (lv_sub hl [] rfl)
      · rw [if_pos c23_3] at hM
        refine lv_bipush (v := (-2 : Int32)) hx hb d_Mo_moved_26 (by decide) ?_
        obtain rfl := Option.some.inj hM
        exact r_iret C hS d_Mo_moved_28
  · rw [if_pos c4_1] at hM
    refine lv_iconst (v := (-1 : Int32)) hx hb d_Mo_moved_7 (by decide) ?_
    obtain rfl := Option.some.inj hM
    exact r_iret C hS d_Mo_moved_8
theorem c_Mo_moved (l : Launch) (base : Nat) (D : va_G) (cI cZ : ClassId) (h : Hp) (l0 : Nat) (l1 : Int32) (l2 : Int32) (l3 : Int32) {r : (Int32 × Hp)} (hM : f_Mo_moved h l0 l1 l2 l3 = some r) : Ct l base D cI cZ y_Mo_moved b_Mo_moved 5 (some .int) 7 166 0 0 h [.ref (base + l0), .int l1, .int l2, .int l3] r.2 (some (.int r.1)) :=
  ct_of (by decide) (Nat.le_of_ble_eq_true rfl) (fun p e s m below meth c ls C hS hl => t_Mo_moved C hM _ _ _ hS hl)
theorem d_Mo_lettersIn_0 : decode b_Mo_lettersIn 0 = .ok (.iload_n 0, 1) := by decide +kernel
theorem d_Mo_lettersIn_1 : decode b_Mo_lettersIn 1 = .ok (.ifCond .ne 7, 3) := by decide +kernel
theorem d_Mo_lettersIn_4 : decode b_Mo_lettersIn 4 = .ok (.iconst 0, 1) := by decide +kernel
theorem d_Mo_lettersIn_5 : decode b_Mo_lettersIn 5 = .ok (.goto 26, 3) := by decide +kernel
theorem d_Mo_lettersIn_8 : decode b_Mo_lettersIn 8 = .ok (.iload_n 0, 1) := by decide +kernel
theorem d_Mo_lettersIn_9 : decode b_Mo_lettersIn 9 = .ok (.bipush 100, 2) := by decide +kernel
theorem d_Mo_lettersIn_11 : decode b_Mo_lettersIn 11 = .ok (.irem, 1) := by decide +kernel
theorem d_Mo_lettersIn_12 : decode b_Mo_lettersIn 12 = .ok (.ifCond .ne 7, 3) := by decide +kernel
theorem d_Mo_lettersIn_15 : decode b_Mo_lettersIn 15 = .ok (.iconst 1, 1) := by decide +kernel
theorem d_Mo_lettersIn_16 : decode b_Mo_lettersIn 16 = .ok (.goto 15, 3) := by decide +kernel
theorem d_Mo_lettersIn_19 : decode b_Mo_lettersIn 19 = .ok (.iload_n 0, 1) := by decide +kernel
theorem d_Mo_lettersIn_20 : decode b_Mo_lettersIn 20 = .ok (.bipush 10, 2) := by decide +kernel
theorem d_Mo_lettersIn_22 : decode b_Mo_lettersIn 22 = .ok (.irem, 1) := by decide +kernel
theorem d_Mo_lettersIn_23 : decode b_Mo_lettersIn 23 = .ok (.ifCond .ne 7, 3) := by decide +kernel
theorem d_Mo_lettersIn_26 : decode b_Mo_lettersIn 26 = .ok (.iconst 2, 1) := by decide +kernel
theorem d_Mo_lettersIn_27 : decode b_Mo_lettersIn 27 = .ok (.goto 4, 3) := by decide +kernel
theorem d_Mo_lettersIn_30 : decode b_Mo_lettersIn 30 = .ok (.iconst 3, 1) := by decide +kernel
theorem d_Mo_lettersIn_31 : decode b_Mo_lettersIn 31 = .ok (.ireturn, 1) := by decide +kernel
def f_Mo_lettersIn (l0 : Int32) : Option Int32 :=
  some (if l0 = (0 : Int32) then ((0 : Int32)) else (if (irem l0 (100 : Int32)) = (0 : Int32) then ((1 : Int32)) else (if (irem l0 (10 : Int32)) = (0 : Int32) then ((2 : Int32)) else ((3 : Int32)))))
set_option maxHeartbeats 4000000 in
set_option maxRecDepth 100000 in
theorem t_Mo_lettersIn {h : Hp} {l0 : Int32} {r : Int32} (C : Cx base D cI cZ b_Mo_lettersIn 1 "MovedFoldersModel" "lettersIn" (some .int) p s m args meth c) (hM : f_Mo_lettersIn l0 = some r) (H : Heap) (locs : List Loc) (ls : Array Slot) (hS : RS base D cI cZ s H locs h) (hl : lv_has ls 1 [(0, .int l0)]) : Wg l base D cI cZ 0 0 0 0 h (some (.int r)) p e s m args below meth c H locs 0 0 (F0 m 0 ls []) := by
  have hx := C.1
  have hb := C.2.1
  unfold f_Mo_lettersIn at hM
  refine lv_iload_n hx hb d_Mo_lettersIn_0 rfl (lv_at hl 0 rfl) ?_
  have kJ31_1 : ∀ (H : Heap) (locs : List Loc) (ls : Array Slot), RS base D cI cZ s H locs h → lv_has ls 1 [] → Wg l base D cI cZ 0 0 0 0 h (some (.int r)) p e s m args below meth c H locs 0 0 (F0 m 31 ls [.int (if l0 = (0 : Int32) then ((0 : Int32)) else (if (irem l0 (100 : Int32)) = (0 : Int32) then ((1 : Int32)) else (if (irem l0 (10 : Int32)) = (0 : Int32) then ((2 : Int32)) else ((3 : Int32)))))]) := by
    intro H locs ls hS hl
    obtain rfl := Option.some.inj hM
    exact r_iret C hS d_Mo_lettersIn_31
  refine lv_if_ne (tgt := 8) hx hb d_Mo_lettersIn_1 (by decide) (fun c1_2 => ?_) (fun c1_2 => ?_)
  · rw [if_neg c1_2] at kJ31_1
    refine lv_iload_n hx hb d_Mo_lettersIn_8 rfl (lv_at hl 0 rfl) ?_
    refine lv_bipush (v := (100 : Int32)) hx hb d_Mo_lettersIn_9 (by decide) ?_
    refine r_irem hx hb d_Mo_lettersIn_11 (by decide) ?_
    refine lv_if_ne (tgt := 19) hx hb d_Mo_lettersIn_12 (by decide) (fun c12_3 => ?_) (fun c12_3 => ?_)
    · rw [if_neg c12_3] at kJ31_1
      refine lv_iload_n hx hb d_Mo_lettersIn_19 rfl (lv_at hl 0 rfl) ?_
      refine lv_bipush (v := (10 : Int32)) hx hb d_Mo_lettersIn_20 (by decide) ?_
      refine r_irem hx hb d_Mo_lettersIn_22 (by decide) ?_
      refine lv_if_ne (tgt := 30) hx hb d_Mo_lettersIn_23 (by decide) (fun c23_4 => ?_) (fun c23_4 => ?_)
      · rw [if_neg c23_4] at kJ31_1
        refine lv_iconst (v := (3 : Int32)) hx hb d_Mo_lettersIn_30 (by decide) ?_
        exact kJ31_1 _ _ _ hS (lv_sub hl [] rfl)
      · rw [if_pos c23_4] at kJ31_1
        refine lv_iconst (v := (2 : Int32)) hx hb d_Mo_lettersIn_26 (by decide) ?_
        refine lv_goto (tgt := 31) hx hb d_Mo_lettersIn_27 (by decide) ?_
        exact kJ31_1 _ _ _ hS (lv_sub hl [] rfl)
    · rw [if_pos c12_3] at kJ31_1
      refine lv_iconst (v := (1 : Int32)) hx hb d_Mo_lettersIn_15 (by decide) ?_
      refine lv_goto (tgt := 31) hx hb d_Mo_lettersIn_16 (by decide) ?_
      exact kJ31_1 _ _ _ hS (lv_sub hl [] rfl)
  · rw [if_pos c1_2] at kJ31_1
    refine lv_iconst (v := (0 : Int32)) hx hb d_Mo_lettersIn_4 (by decide) ?_
    refine lv_goto (tgt := 31) hx hb d_Mo_lettersIn_5 (by decide) ?_
    exact kJ31_1 _ _ _ hS (lv_sub hl [] rfl)
theorem c_Mo_lettersIn (l : Launch) (base : Nat) (D : va_G) (cI cZ : ClassId) (h : Hp) (l0 : Int32) {r : Int32} (hM : f_Mo_lettersIn l0 = some r) : Ct l base D cI cZ y_Mo_lettersIn b_Mo_lettersIn 1 (some .int) 0 0 0 0 h [.int l0] h (some (.int r)) :=
  ct_of (by decide) (Nat.le_of_ble_eq_true rfl) (fun p e s m below meth c ls C hS hl => t_Mo_lettersIn C hM _ _ _ hS hl)
theorem d_Mo_letterOf_0 : decode b_Mo_letterOf 0 = .ok (.iload_n 0, 1) := by decide +kernel
theorem d_Mo_letterOf_1 : decode b_Mo_letterOf 1 = .ok (.iload_n 1, 1) := by decide +kernel
theorem d_Mo_letterOf_2 : decode b_Mo_letterOf 2 = .ok (.invokestatic 92, 3) := by decide +kernel
theorem d_Mo_letterOf_5 : decode b_Mo_letterOf 5 = .ok (.idiv, 1) := by decide +kernel
theorem d_Mo_letterOf_6 : decode b_Mo_letterOf 6 = .ok (.bipush 10, 2) := by decide +kernel
theorem d_Mo_letterOf_8 : decode b_Mo_letterOf 8 = .ok (.irem, 1) := by decide +kernel
theorem d_Mo_letterOf_9 : decode b_Mo_letterOf 9 = .ok (.ireturn, 1) := by decide +kernel
def f_Mo_letterOf (l0 : Int32) (l1 : Int32) : Option Int32 :=
  (f_Mo_worth l1).bind fun t1 =>
  (idv l0 t1).bind fun t2 =>
  some (irem t2 (10 : Int32))
set_option maxHeartbeats 4000000 in
set_option maxRecDepth 100000 in
theorem t_Mo_letterOf {h : Hp} {l0 : Int32} {l1 : Int32} {r : Int32} (C : Cx base D cI cZ b_Mo_letterOf 2 "MovedFoldersModel" "letterOf" (some .int) p s m args meth c) (hM : f_Mo_letterOf l0 l1 = some r) (H : Heap) (locs : List Loc) (ls : Array Slot) (hS : RS base D cI cZ s H locs h) (hl : lv_has ls 2 [(0, .int l0), (1, .int l1)]) : Wg l base D cI cZ 1 20 0 0 h (some (.int r)) p e s m args below meth c H locs 0 0 (F0 m 0 ls []) := by
  have hx := C.1
  have hb := C.2.1
  unfold f_Mo_letterOf at hM
  refine lv_iload_n hx hb d_Mo_letterOf_0 rfl (lv_at hl 0 rfl) ?_
  refine lv_iload_n hx hb d_Mo_letterOf_1 rfl (lv_at hl 1 rfl) ?_
  obtain ⟨t1, et1, hM⟩ := bS hM
  refine r_callSi (x := t1) C hS cs_Mo_92 (c_Mo_worth l base D cI cZ h l1 et1) (rest := [.int l0]) rfl hl.1 rfl (Nat.le_of_ble_eq_true rfl) ⟨(Nat.le_of_ble_eq_true rfl), (Nat.le_of_ble_eq_true rfl)⟩ ⟨(Nat.le_of_ble_eq_true rfl), (Nat.le_of_ble_eq_true rfl)⟩ d_Mo_letterOf_2 (fun H locs hS => ?_)
  obtain ⟨t2, et2, hM⟩ := bS hM
  refine r_idivS hx hb d_Mo_letterOf_5 et2 ?_
  refine lv_bipush (v := (10 : Int32)) hx hb d_Mo_letterOf_6 (by decide) ?_
  refine r_irem hx hb d_Mo_letterOf_8 (by decide) ?_
  obtain rfl := Option.some.inj hM
  exact r_iret C hS d_Mo_letterOf_9
theorem c_Mo_letterOf (l : Launch) (base : Nat) (D : va_G) (cI cZ : ClassId) (h : Hp) (l0 : Int32) (l1 : Int32) {r : Int32} (hM : f_Mo_letterOf l0 l1 = some r) : Ct l base D cI cZ y_Mo_letterOf b_Mo_letterOf 2 (some .int) 1 20 0 0 h [.int l0, .int l1] h (some (.int r)) :=
  ct_of (by decide) (Nat.le_of_ble_eq_true rfl) (fun p e s m below meth c ls C hS hl => t_Mo_letterOf C hM _ _ _ hS hl)
theorem d_Mo_headOf_0 : decode b_Mo_headOf 0 = .ok (.iconst 0, 1) := by decide +kernel
theorem d_Mo_headOf_1 : decode b_Mo_headOf 1 = .ok (.istore_n 2, 1) := by decide +kernel
theorem d_Mo_headOf_2 : decode b_Mo_headOf 2 = .ok (.iconst 0, 1) := by decide +kernel
theorem d_Mo_headOf_3 : decode b_Mo_headOf 3 = .ok (.istore_n 3, 1) := by decide +kernel
theorem d_Mo_headOf_4 : decode b_Mo_headOf 4 = .ok (.iload_n 3, 1) := by decide +kernel
theorem d_Mo_headOf_5 : decode b_Mo_headOf 5 = .ok (.iload_n 1, 1) := by decide +kernel
theorem d_Mo_headOf_6 : decode b_Mo_headOf 6 = .ok (.if_icmp .ge 22, 3) := by decide +kernel
theorem d_Mo_headOf_9 : decode b_Mo_headOf 9 = .ok (.iload_n 2, 1) := by decide +kernel
theorem d_Mo_headOf_10 : decode b_Mo_headOf 10 = .ok (.iload_n 3, 1) := by decide +kernel
theorem d_Mo_headOf_11 : decode b_Mo_headOf 11 = .ok (.invokestatic 92, 3) := by decide +kernel
theorem d_Mo_headOf_14 : decode b_Mo_headOf 14 = .ok (.iload_n 0, 1) := by decide +kernel
theorem d_Mo_headOf_15 : decode b_Mo_headOf 15 = .ok (.iload_n 3, 1) := by decide +kernel
theorem d_Mo_headOf_16 : decode b_Mo_headOf 16 = .ok (.invokestatic 204, 3) := by decide +kernel
theorem d_Mo_headOf_19 : decode b_Mo_headOf 19 = .ok (.imul, 1) := by decide +kernel
theorem d_Mo_headOf_20 : decode b_Mo_headOf 20 = .ok (.iadd, 1) := by decide +kernel
theorem d_Mo_headOf_21 : decode b_Mo_headOf 21 = .ok (.istore_n 2, 1) := by decide +kernel
theorem d_Mo_headOf_22 : decode b_Mo_headOf 22 = .ok (.iinc 3 1, 3) := by decide +kernel
theorem d_Mo_headOf_25 : decode b_Mo_headOf 25 = .ok (.goto (-21), 3) := by decide +kernel
theorem d_Mo_headOf_28 : decode b_Mo_headOf 28 = .ok (.iload_n 2, 1) := by decide +kernel
theorem d_Mo_headOf_29 : decode b_Mo_headOf 29 = .ok (.ireturn, 1) := by decide +kernel
def f_Mo_headOf_4 (l0 : Int32) (l1 : Int32) : Nat → Int32 → Int32 → Option Int32
  | 0, _, _ => none
  | n + 1, l2, l3 =>
    if l1 ≤ l3 then (
      some l2
    ) else (
      (f_Mo_worth l3).bind fun t1 =>
      (f_Mo_letterOf l0 l3).bind fun t2 =>
      f_Mo_headOf_4 l0 l1 n (l2 + (t1 * t2)) (l3 + (1 : Int32))
    )
set_option maxHeartbeats 4000000 in
set_option maxRecDepth 100000 in
theorem t_Mo_headOf_4 {h : Hp} {l0 : Int32} {l1 : Int32} {r : Int32} (C : Cx base D cI cZ b_Mo_headOf 4 "MovedFoldersModel" "headOf" (some .int) p s m args meth c)  : ∀ (n : Nat) (l2 : Int32) (l3 : Int32), f_Mo_headOf_4 l0 l1 n l2 l3 = some r → ∀ (H : Heap) (locs : List Loc) (ls : Array Slot), RS base D cI cZ s H locs h → lv_has ls 4 [(0, .int l0), (1, .int l1), (2, .int l2), (3, .int l3)] → Wg l base D cI cZ 2 41 0 0 h (some (.int r)) p e s m args below meth c H locs 0 0 (F0 m 4 ls []) := by
  have hx := C.1
  have hb := C.2.1
  intro n
  induction n with
  | zero =>
    intro l2 l3 hM
    rw [f_Mo_headOf_4] at hM
    cases hM
  | succ n ih =>
    intro l2 l3 hM H locs ls hS hl
    rw [f_Mo_headOf_4] at hM
    refine lv_iload_n hx hb d_Mo_headOf_4 rfl (lv_at hl 3 rfl) ?_
    refine lv_iload_n hx hb d_Mo_headOf_5 rfl (lv_at hl 1 rfl) ?_
    refine lv_icmp_ge (tgt := 28) hx hb d_Mo_headOf_6 (by decide) (fun c6_1 => ?_) (fun c6_1 => ?_)
    · rw [if_pos c6_1] at hM
      refine lv_iload_n hx hb d_Mo_headOf_28 rfl (lv_at hl 2 rfl) ?_
      obtain rfl := Option.some.inj hM
      exact r_iret C hS d_Mo_headOf_29
    · rw [if_neg c6_1] at hM
      refine lv_iload_n hx hb d_Mo_headOf_9 rfl (lv_at hl 2 rfl) ?_
      refine lv_iload_n hx hb d_Mo_headOf_10 rfl (lv_at hl 3 rfl) ?_
      obtain ⟨t1, et1, hM⟩ := bS hM
      refine r_callSi (x := t1) C hS cs_Mo_92 (c_Mo_worth l base D cI cZ h l3 et1) (rest := [.int l2]) rfl hl.1 rfl (Nat.le_of_ble_eq_true rfl) ⟨(Nat.le_of_ble_eq_true rfl), (Nat.le_of_ble_eq_true rfl)⟩ ⟨(Nat.le_of_ble_eq_true rfl), (Nat.le_of_ble_eq_true rfl)⟩ d_Mo_headOf_11 (fun H locs hS => ?_)
      refine lv_iload_n hx hb d_Mo_headOf_14 rfl (lv_at hl 0 rfl) ?_
      refine lv_iload_n hx hb d_Mo_headOf_15 rfl (lv_at hl 3 rfl) ?_
      obtain ⟨t2, et2, hM⟩ := bS hM
      refine r_callSi (x := t2) C hS cs_Mo_204 (c_Mo_letterOf l base D cI cZ h l0 l3 et2) (rest := [.int t1, .int l2]) rfl hl.1 rfl (Nat.le_of_ble_eq_true rfl) ⟨(Nat.le_of_ble_eq_true rfl), (Nat.le_of_ble_eq_true rfl)⟩ ⟨(Nat.le_of_ble_eq_true rfl), (Nat.le_of_ble_eq_true rfl)⟩ d_Mo_headOf_16 (fun H locs hS => ?_)
      refine lv_imul hx hb d_Mo_headOf_19 ?_
      refine lv_iadd hx hb d_Mo_headOf_20 ?_
      refine lv_istore_n (lv' := [(2, .int (l2 + (t1 * t2))), (0, .int l0), (1, .int l1), (3, .int l3)]) hx hb d_Mo_headOf_21 rfl hl (by decide) rfl (fun ls hl => ?_)
      refine lv_iinc (v := (l3 + (1 : Int32))) (lv' := [(3, .int (l3 + (1 : Int32))), (2, .int (l2 + (t1 * t2))), (0, .int l0), (1, .int l1)]) hx hb d_Mo_headOf_22 hl (k := 3) rfl (by rw [oi_1]) (by decide) rfl (fun ls hl => ?_)
      refine lv_goto (tgt := 4) hx hb d_Mo_headOf_25 (by decide) ?_
      exact ih (l2 + (t1 * t2)) (l3 + (1 : Int32)) hM _ _ _ hS (lv_sub hl [2, 3, 1, 0] rfl)
def f_Mo_headOf (l0 : Int32) (l1 : Int32) : Option Int32 :=
  f_Mo_headOf_4 l0 l1 FU (0 : Int32) (0 : Int32)
set_option maxHeartbeats 4000000 in
set_option maxRecDepth 100000 in
theorem t_Mo_headOf {h : Hp} {l0 : Int32} {l1 : Int32} {r : Int32} (C : Cx base D cI cZ b_Mo_headOf 4 "MovedFoldersModel" "headOf" (some .int) p s m args meth c) (hM : f_Mo_headOf l0 l1 = some r) (H : Heap) (locs : List Loc) (ls : Array Slot) (hS : RS base D cI cZ s H locs h) (hl : lv_has ls 4 [(0, .int l0), (1, .int l1)]) : Wg l base D cI cZ 2 41 0 0 h (some (.int r)) p e s m args below meth c H locs 0 0 (F0 m 0 ls []) := by
  have hx := C.1
  have hb := C.2.1
  unfold f_Mo_headOf at hM
  refine lv_iconst (v := (0 : Int32)) hx hb d_Mo_headOf_0 (by decide) ?_
  refine lv_istore_n (lv' := [(2, .int (0 : Int32)), (0, .int l0), (1, .int l1)]) hx hb d_Mo_headOf_1 rfl hl (by decide) rfl (fun ls hl => ?_)
  refine lv_iconst (v := (0 : Int32)) hx hb d_Mo_headOf_2 (by decide) ?_
  refine lv_istore_n (lv' := [(3, .int (0 : Int32)), (2, .int (0 : Int32)), (0, .int l0), (1, .int l1)]) hx hb d_Mo_headOf_3 rfl hl (by decide) rfl (fun ls hl => ?_)
  exact t_Mo_headOf_4  C  FU (0 : Int32) (0 : Int32) hM _ _ _ hS (lv_sub hl [2, 3, 1, 0] rfl)
theorem c_Mo_headOf (l : Launch) (base : Nat) (D : va_G) (cI cZ : ClassId) (h : Hp) (l0 : Int32) (l1 : Int32) {r : Int32} (hM : f_Mo_headOf l0 l1 = some r) : Ct l base D cI cZ y_Mo_headOf b_Mo_headOf 4 (some .int) 2 41 0 0 h [.int l0, .int l1] h (some (.int r)) :=
  ct_of (by decide) (Nat.le_of_ble_eq_true rfl) (fun p e s m below meth c ls C hS hl => t_Mo_headOf C hM _ _ _ hS hl)
theorem d_Mo_joined_0 : decode b_Mo_joined 0 = .ok (.iload_n 0, 1) := by decide +kernel
theorem d_Mo_joined_1 : decode b_Mo_joined 1 = .ok (.invokestatic 207, 3) := by decide +kernel
theorem d_Mo_joined_4 : decode b_Mo_joined 4 = .ok (.istore_n 3, 1) := by decide +kernel
theorem d_Mo_joined_5 : decode b_Mo_joined 5 = .ok (.iload_n 0, 1) := by decide +kernel
theorem d_Mo_joined_6 : decode b_Mo_joined 6 = .ok (.istore 4, 2) := by decide +kernel
theorem d_Mo_joined_8 : decode b_Mo_joined 8 = .ok (.iload_n 3, 1) := by decide +kernel
theorem d_Mo_joined_9 : decode b_Mo_joined 9 = .ok (.iload_n 1, 1) := by decide +kernel
theorem d_Mo_joined_10 : decode b_Mo_joined 10 = .ok (.invokestatic 207, 3) := by decide +kernel
theorem d_Mo_joined_13 : decode b_Mo_joined 13 = .ok (.iadd, 1) := by decide +kernel
theorem d_Mo_joined_14 : decode b_Mo_joined 14 = .ok (.iload_n 2, 1) := by decide +kernel
theorem d_Mo_joined_15 : decode b_Mo_joined 15 = .ok (.isub, 1) := by decide +kernel
theorem d_Mo_joined_16 : decode b_Mo_joined 16 = .ok (.iconst 3, 1) := by decide +kernel
theorem d_Mo_joined_17 : decode b_Mo_joined 17 = .ok (.if_icmp .le 5, 3) := by decide +kernel
theorem d_Mo_joined_20 : decode b_Mo_joined 20 = .ok (.iload_n 1, 1) := by decide +kernel
theorem d_Mo_joined_21 : decode b_Mo_joined 21 = .ok (.ireturn, 1) := by decide +kernel
theorem d_Mo_joined_22 : decode b_Mo_joined 22 = .ok (.iload_n 2, 1) := by decide +kernel
theorem d_Mo_joined_23 : decode b_Mo_joined 23 = .ok (.istore 5, 2) := by decide +kernel
theorem d_Mo_joined_25 : decode b_Mo_joined 25 = .ok (.iload 5, 2) := by decide +kernel
theorem d_Mo_joined_27 : decode b_Mo_joined 27 = .ok (.iload_n 1, 1) := by decide +kernel
theorem d_Mo_joined_28 : decode b_Mo_joined 28 = .ok (.invokestatic 207, 3) := by decide +kernel
theorem d_Mo_joined_31 : decode b_Mo_joined 31 = .ok (.if_icmp .ge 28, 3) := by decide +kernel
theorem d_Mo_joined_34 : decode b_Mo_joined 34 = .ok (.iload 4, 2) := by decide +kernel
theorem d_Mo_joined_36 : decode b_Mo_joined 36 = .ok (.iload_n 3, 1) := by decide +kernel
theorem d_Mo_joined_37 : decode b_Mo_joined 37 = .ok (.invokestatic 92, 3) := by decide +kernel
theorem d_Mo_joined_40 : decode b_Mo_joined 40 = .ok (.iload_n 1, 1) := by decide +kernel
theorem d_Mo_joined_41 : decode b_Mo_joined 41 = .ok (.iload 5, 2) := by decide +kernel
theorem d_Mo_joined_43 : decode b_Mo_joined 43 = .ok (.invokestatic 204, 3) := by decide +kernel
theorem d_Mo_joined_46 : decode b_Mo_joined 46 = .ok (.imul, 1) := by decide +kernel
theorem d_Mo_joined_47 : decode b_Mo_joined 47 = .ok (.iadd, 1) := by decide +kernel
theorem d_Mo_joined_48 : decode b_Mo_joined 48 = .ok (.istore 4, 2) := by decide +kernel
theorem d_Mo_joined_50 : decode b_Mo_joined 50 = .ok (.iinc 3 1, 3) := by decide +kernel
theorem d_Mo_joined_53 : decode b_Mo_joined 53 = .ok (.iinc 5 1, 3) := by decide +kernel
theorem d_Mo_joined_56 : decode b_Mo_joined 56 = .ok (.goto (-31), 3) := by decide +kernel
theorem d_Mo_joined_59 : decode b_Mo_joined 59 = .ok (.iload 4, 2) := by decide +kernel
theorem d_Mo_joined_61 : decode b_Mo_joined 61 = .ok (.ireturn, 1) := by decide +kernel
def f_Mo_joined_25 (l1 : Int32) : Nat → Int32 → Int32 → Int32 → Option Int32
  | 0, _, _, _ => none
  | n + 1, l3, l4, l5 =>
    (f_Mo_lettersIn l1).bind fun t3 =>
    if t3 ≤ l5 then (
      some l4
    ) else (
      (f_Mo_worth l3).bind fun t4 =>
      (f_Mo_letterOf l1 l5).bind fun t5 =>
      f_Mo_joined_25 l1 n (l3 + (1 : Int32)) (l4 + (t4 * t5)) (l5 + (1 : Int32))
    )
set_option maxHeartbeats 4000000 in
set_option maxRecDepth 100000 in
theorem t_Mo_joined_25 {h : Hp} {l1 : Int32} {r : Int32} (C : Cx base D cI cZ b_Mo_joined 6 "MovedFoldersModel" "joined" (some .int) p s m args meth c)  : ∀ (n : Nat) (l3 : Int32) (l4 : Int32) (l5 : Int32), f_Mo_joined_25 l1 n l3 l4 l5 = some r → ∀ (H : Heap) (locs : List Loc) (ls : Array Slot), RS base D cI cZ s H locs h → lv_has ls 6 [(1, .int l1), (3, .int l3), (4, .int l4), (5, .int l5)] → Wg l base D cI cZ 2 41 0 0 h (some (.int r)) p e s m args below meth c H locs 0 0 (F0 m 25 ls []) := by
  have hx := C.1
  have hb := C.2.1
  intro n
  induction n with
  | zero =>
    intro l3 l4 l5 hM
    rw [f_Mo_joined_25] at hM
    cases hM
  | succ n ih =>
    intro l3 l4 l5 hM H locs ls hS hl
    rw [f_Mo_joined_25] at hM
    refine lv_iload hx hb d_Mo_joined_25 (lv_at hl 3 rfl) ?_
    refine lv_iload_n hx hb d_Mo_joined_27 rfl (lv_at hl 0 rfl) ?_
    obtain ⟨t3, et3, hM⟩ := bS hM
    refine r_callSi (x := t3) C hS cs_Mo_207 (c_Mo_lettersIn l base D cI cZ h l1 et3) (rest := [.int l5]) rfl hl.1 rfl (Nat.le_of_ble_eq_true rfl) ⟨(Nat.le_of_ble_eq_true rfl), (Nat.le_of_ble_eq_true rfl)⟩ ⟨(Nat.le_of_ble_eq_true rfl), (Nat.le_of_ble_eq_true rfl)⟩ d_Mo_joined_28 (fun H locs hS => ?_)
    refine lv_icmp_ge (tgt := 59) hx hb d_Mo_joined_31 (by decide) (fun c31_2 => ?_) (fun c31_2 => ?_)
    · rw [if_pos c31_2] at hM
      refine lv_iload hx hb d_Mo_joined_59 (lv_at hl 2 rfl) ?_
      obtain rfl := Option.some.inj hM
      exact r_iret C hS d_Mo_joined_61
    · rw [if_neg c31_2] at hM
      refine lv_iload hx hb d_Mo_joined_34 (lv_at hl 2 rfl) ?_
      refine lv_iload_n hx hb d_Mo_joined_36 rfl (lv_at hl 1 rfl) ?_
      obtain ⟨t4, et4, hM⟩ := bS hM
      refine r_callSi (x := t4) C hS cs_Mo_92 (c_Mo_worth l base D cI cZ h l3 et4) (rest := [.int l4]) rfl hl.1 rfl (Nat.le_of_ble_eq_true rfl) ⟨(Nat.le_of_ble_eq_true rfl), (Nat.le_of_ble_eq_true rfl)⟩ ⟨(Nat.le_of_ble_eq_true rfl), (Nat.le_of_ble_eq_true rfl)⟩ d_Mo_joined_37 (fun H locs hS => ?_)
      refine lv_iload_n hx hb d_Mo_joined_40 rfl (lv_at hl 0 rfl) ?_
      refine lv_iload hx hb d_Mo_joined_41 (lv_at hl 3 rfl) ?_
      obtain ⟨t5, et5, hM⟩ := bS hM
      refine r_callSi (x := t5) C hS cs_Mo_204 (c_Mo_letterOf l base D cI cZ h l1 l5 et5) (rest := [.int t4, .int l4]) rfl hl.1 rfl (Nat.le_of_ble_eq_true rfl) ⟨(Nat.le_of_ble_eq_true rfl), (Nat.le_of_ble_eq_true rfl)⟩ ⟨(Nat.le_of_ble_eq_true rfl), (Nat.le_of_ble_eq_true rfl)⟩ d_Mo_joined_43 (fun H locs hS => ?_)
      refine lv_imul hx hb d_Mo_joined_46 ?_
      refine lv_iadd hx hb d_Mo_joined_47 ?_
      refine lv_istore (lv' := [(4, .int (l4 + (t4 * t5))), (1, .int l1), (3, .int l3), (5, .int l5)]) hx hb d_Mo_joined_48 hl (by decide) rfl (fun ls hl => ?_)
      refine lv_iinc (v := (l3 + (1 : Int32))) (lv' := [(3, .int (l3 + (1 : Int32))), (4, .int (l4 + (t4 * t5))), (1, .int l1), (5, .int l5)]) hx hb d_Mo_joined_50 hl (k := 2) rfl (by rw [oi_1]) (by decide) rfl (fun ls hl => ?_)
      refine lv_iinc (v := (l5 + (1 : Int32))) (lv' := [(5, .int (l5 + (1 : Int32))), (3, .int (l3 + (1 : Int32))), (4, .int (l4 + (t4 * t5))), (1, .int l1)]) hx hb d_Mo_joined_53 hl (k := 3) rfl (by rw [oi_1]) (by decide) rfl (fun ls hl => ?_)
      refine lv_goto (tgt := 25) hx hb d_Mo_joined_56 (by decide) ?_
      exact ih (l3 + (1 : Int32)) (l4 + (t4 * t5)) (l5 + (1 : Int32)) hM _ _ _ hS (lv_sub hl [3, 1, 2, 0] rfl)
def f_Mo_joined (l0 : Int32) (l1 : Int32) (l2 : Int32) : Option Int32 :=
  (f_Mo_lettersIn l0).bind fun t1 =>
  (f_Mo_lettersIn l1).bind fun t2 =>
  if ((t1 + t2) - l2) ≤ (3 : Int32) then (
    f_Mo_joined_25 l1 FU t1 l0 l2
  ) else (
    some l1
  )
set_option maxHeartbeats 4000000 in
set_option maxRecDepth 100000 in
theorem t_Mo_joined {h : Hp} {l0 : Int32} {l1 : Int32} {l2 : Int32} {r : Int32} (C : Cx base D cI cZ b_Mo_joined 6 "MovedFoldersModel" "joined" (some .int) p s m args meth c) (hM : f_Mo_joined l0 l1 l2 = some r) (H : Heap) (locs : List Loc) (ls : Array Slot) (hS : RS base D cI cZ s H locs h) (hl : lv_has ls 6 [(0, .int l0), (1, .int l1), (2, .int l2)]) : Wg l base D cI cZ 2 41 0 0 h (some (.int r)) p e s m args below meth c H locs 0 0 (F0 m 0 ls []) := by
  have hx := C.1
  have hb := C.2.1
  unfold f_Mo_joined at hM
  refine lv_iload_n hx hb d_Mo_joined_0 rfl (lv_at hl 0 rfl) ?_
  obtain ⟨t1, et1, hM⟩ := bS hM
  refine r_callSi (x := t1) C hS cs_Mo_207 (c_Mo_lettersIn l base D cI cZ h l0 et1) (rest := []) rfl hl.1 rfl (Nat.le_of_ble_eq_true rfl) ⟨(Nat.le_of_ble_eq_true rfl), (Nat.le_of_ble_eq_true rfl)⟩ ⟨(Nat.le_of_ble_eq_true rfl), (Nat.le_of_ble_eq_true rfl)⟩ d_Mo_joined_1 (fun H locs hS => ?_)
  refine lv_istore_n (lv' := [(3, .int t1), (0, .int l0), (1, .int l1), (2, .int l2)]) hx hb d_Mo_joined_4 rfl hl (by decide) rfl (fun ls hl => ?_)
  refine lv_iload_n hx hb d_Mo_joined_5 rfl (lv_at hl 1 rfl) ?_
  refine lv_istore (lv' := [(4, .int l0), (3, .int t1), (0, .int l0), (1, .int l1), (2, .int l2)]) hx hb d_Mo_joined_6 hl (by decide) rfl (fun ls hl => ?_)
  refine lv_iload_n hx hb d_Mo_joined_8 rfl (lv_at hl 1 rfl) ?_
  refine lv_iload_n hx hb d_Mo_joined_9 rfl (lv_at hl 3 rfl) ?_
  obtain ⟨t2, et2, hM⟩ := bS hM
  refine r_callSi (x := t2) C hS cs_Mo_207 (c_Mo_lettersIn l base D cI cZ h l1 et2) (rest := [.int t1]) rfl hl.1 rfl (Nat.le_of_ble_eq_true rfl) ⟨(Nat.le_of_ble_eq_true rfl), (Nat.le_of_ble_eq_true rfl)⟩ ⟨(Nat.le_of_ble_eq_true rfl), (Nat.le_of_ble_eq_true rfl)⟩ d_Mo_joined_10 (fun H locs hS => ?_)
  refine lv_iadd hx hb d_Mo_joined_13 ?_
  refine lv_iload_n hx hb d_Mo_joined_14 rfl (lv_at hl 4 rfl) ?_
  refine lv_isub hx hb d_Mo_joined_15 ?_
  refine lv_iconst (v := (3 : Int32)) hx hb d_Mo_joined_16 (by decide) ?_
  refine lv_icmp_le (tgt := 22) hx hb d_Mo_joined_17 (by decide) (fun c17_1 => ?_) (fun c17_1 => ?_)
  · rw [if_pos c17_1] at hM
    refine lv_iload_n hx hb d_Mo_joined_22 rfl (lv_at hl 4 rfl) ?_
    refine lv_istore (lv' := [(5, .int l2), (4, .int l0), (3, .int t1), (0, .int l0), (1, .int l1), (2, .int l2)]) hx hb d_Mo_joined_23 hl (by decide) rfl (fun ls hl => ?_)
    exact t_Mo_joined_25  C  FU t1 l0 l2 hM _ _ _ hS (lv_sub hl [4, 2, 1, 0] rfl)
  · rw [if_neg c17_1] at hM
    refine lv_iload_n hx hb d_Mo_joined_20 rfl (lv_at hl 3 rfl) ?_
    obtain rfl := Option.some.inj hM
    exact r_iret C hS d_Mo_joined_21
theorem c_Mo_joined (l : Launch) (base : Nat) (D : va_G) (cI cZ : ClassId) (h : Hp) (l0 : Int32) (l1 : Int32) (l2 : Int32) {r : Int32} (hM : f_Mo_joined l0 l1 l2 = some r) : Ct l base D cI cZ y_Mo_joined b_Mo_joined 6 (some .int) 2 41 0 0 h [.int l0, .int l1, .int l2] h (some (.int r)) :=
  ct_of (by decide) (Nat.le_of_ble_eq_true rfl) (fun p e s m below meth c ls C hS hl => t_Mo_joined C hM _ _ _ hS hl)
theorem d_Mo_destOf_0 : decode b_Mo_destOf 0 = .ok (.iload_n 2, 1) := by decide +kernel
theorem d_Mo_destOf_1 : decode b_Mo_destOf 1 = .ok (.invokestatic 207, 3) := by decide +kernel
theorem d_Mo_destOf_4 : decode b_Mo_destOf 4 = .ok (.istore_n 3, 1) := by decide +kernel
theorem d_Mo_destOf_5 : decode b_Mo_destOf 5 = .ok (.iload_n 3, 1) := by decide +kernel
theorem d_Mo_destOf_6 : decode b_Mo_destOf 6 = .ok (.ifCond .lt 54, 3) := by decide +kernel
theorem d_Mo_destOf_9 : decode b_Mo_destOf 9 = .ok (.iload_n 2, 1) := by decide +kernel
theorem d_Mo_destOf_10 : decode b_Mo_destOf 10 = .ok (.iload_n 3, 1) := by decide +kernel
theorem d_Mo_destOf_11 : decode b_Mo_destOf 11 = .ok (.invokestatic 210, 3) := by decide +kernel
theorem d_Mo_destOf_14 : decode b_Mo_destOf 14 = .ok (.istore 4, 2) := by decide +kernel
theorem d_Mo_destOf_16 : decode b_Mo_destOf 16 = .ok (.aload_n 0, 1) := by decide +kernel
theorem d_Mo_destOf_17 : decode b_Mo_destOf 17 = .ok (.getfield 35, 3) := by decide +kernel
theorem d_Mo_destOf_20 : decode b_Mo_destOf 20 = .ok (.sipush 445, 3) := by decide +kernel
theorem d_Mo_destOf_23 : decode b_Mo_destOf 23 = .ok (.iload_n 1, 1) := by decide +kernel
theorem d_Mo_destOf_24 : decode b_Mo_destOf 24 = .ok (.imul, 1) := by decide +kernel
theorem d_Mo_destOf_25 : decode b_Mo_destOf 25 = .ok (.iload 4, 2) := by decide +kernel
theorem d_Mo_destOf_27 : decode b_Mo_destOf 27 = .ok (.iadd, 1) := by decide +kernel
theorem d_Mo_destOf_28 : decode b_Mo_destOf 28 = .ok (.iaload, 1) := by decide +kernel
theorem d_Mo_destOf_29 : decode b_Mo_destOf 29 = .ok (.istore 5, 2) := by decide +kernel
theorem d_Mo_destOf_31 : decode b_Mo_destOf 31 = .ok (.iload 5, 2) := by decide +kernel
theorem d_Mo_destOf_33 : decode b_Mo_destOf 33 = .ok (.ifCond .lt 21, 3) := by decide +kernel
theorem d_Mo_destOf_36 : decode b_Mo_destOf 36 = .ok (.aload_n 0, 1) := by decide +kernel
theorem d_Mo_destOf_37 : decode b_Mo_destOf 37 = .ok (.iload_n 1, 1) := by decide +kernel
theorem d_Mo_destOf_38 : decode b_Mo_destOf 38 = .ok (.iload 4, 2) := by decide +kernel
theorem d_Mo_destOf_40 : decode b_Mo_destOf 40 = .ok (.invokevirtual 201, 3) := by decide +kernel
theorem d_Mo_destOf_43 : decode b_Mo_destOf 43 = .ok (.ifCond .ne 11, 3) := by decide +kernel
theorem d_Mo_destOf_46 : decode b_Mo_destOf 46 = .ok (.iload 5, 2) := by decide +kernel
theorem d_Mo_destOf_48 : decode b_Mo_destOf 48 = .ok (.iload_n 2, 1) := by decide +kernel
theorem d_Mo_destOf_49 : decode b_Mo_destOf 49 = .ok (.iload_n 3, 1) := by decide +kernel
theorem d_Mo_destOf_50 : decode b_Mo_destOf 50 = .ok (.invokestatic 213, 3) := by decide +kernel
theorem d_Mo_destOf_53 : decode b_Mo_destOf 53 = .ok (.ireturn, 1) := by decide +kernel
theorem d_Mo_destOf_54 : decode b_Mo_destOf 54 = .ok (.iinc 3 (-1), 3) := by decide +kernel
theorem d_Mo_destOf_57 : decode b_Mo_destOf 57 = .ok (.goto (-52), 3) := by decide +kernel
theorem d_Mo_destOf_60 : decode b_Mo_destOf 60 = .ok (.iload_n 2, 1) := by decide +kernel
theorem d_Mo_destOf_61 : decode b_Mo_destOf 61 = .ok (.ireturn, 1) := by decide +kernel
def f_Mo_destOf_5 (l0 : Nat) (l1 : Int32) (l2 : Int32) : Nat → Int32 → Hp → Option (Int32 × Hp)
  | 0, _, _ => none
  | n + 1, l3, h =>
    if l3 < (0 : Int32) then (
      some (l2, h)
    ) else (
      (f_Mo_headOf l2 l3).bind fun t2 =>
      (gR h 9 l0 14).bind fun t3 =>
      (gA h false t3 (((445 : Int32) * l1) + t2)).bind fun t4 =>
      if t4 < (0 : Int32) then (
        f_Mo_destOf_5 l0 l1 l2 n (l3 + (-1 : Int32)) h
      ) else (
        (f_Mo_isLoop h l0 l1 t2).bind fun q5 =>
        if q5.1 = (0 : Int32) then (
          (f_Mo_joined t4 l2 l3).bind fun t6 =>
          some (t6, q5.2)
        ) else (
          f_Mo_destOf_5 l0 l1 l2 n (l3 + (-1 : Int32)) q5.2
        )
      )
    )
set_option maxHeartbeats 4000000 in
set_option maxRecDepth 100000 in
theorem t_Mo_destOf_5 {l0 : Nat} {l1 : Int32} {l2 : Int32} {r : (Int32 × Hp)} (C : Cx base D cI cZ b_Mo_destOf 6 "MovedFoldersModel" "destOf" (some .int) p s m args meth c)  : ∀ (n : Nat) (l3 : Int32) (h : Hp), f_Mo_destOf_5 l0 l1 l2 n l3 h = some r → ∀ (H : Heap) (locs : List Loc) (ls : Array Slot), RS base D cI cZ s H locs h → lv_has ls 6 [(0, .ref (base + l0)), (1, .int l1), (2, .int l2), (3, .int l3)] → Wg l base D cI cZ 3 66 0 0 r.2 (some (.int r.1)) p e s m args below meth c H locs 0 0 (F0 m 5 ls []) := by
  have hx := C.1
  have hb := C.2.1
  intro n
  induction n with
  | zero =>
    intro l3 h hM
    rw [f_Mo_destOf_5] at hM
    cases hM
  | succ n ih =>
    intro l3 h hM H locs ls hS hl
    rw [f_Mo_destOf_5] at hM
    refine lv_iload_n hx hb d_Mo_destOf_5 rfl (lv_at hl 3 rfl) ?_
    refine lv_if_lt (tgt := 60) hx hb d_Mo_destOf_6 (by decide) (fun c6_1 => ?_) (fun c6_1 => ?_)
    · rw [if_pos c6_1] at hM
      refine lv_iload_n hx hb d_Mo_destOf_60 rfl (lv_at hl 2 rfl) ?_
      obtain rfl := Option.some.inj hM
      exact r_iret C hS d_Mo_destOf_61
    · rw [if_neg c6_1] at hM
      refine lv_iload_n hx hb d_Mo_destOf_9 rfl (lv_at hl 2 rfl) ?_
      refine lv_iload_n hx hb d_Mo_destOf_10 rfl (lv_at hl 3 rfl) ?_
      obtain ⟨t2, et2, hM⟩ := bS hM
      refine r_callSi (x := t2) C hS cs_Mo_210 (c_Mo_headOf l base D cI cZ h l2 l3 et2) (rest := []) rfl hl.1 rfl (Nat.le_of_ble_eq_true rfl) ⟨(Nat.le_of_ble_eq_true rfl), (Nat.le_of_ble_eq_true rfl)⟩ ⟨(Nat.le_of_ble_eq_true rfl), (Nat.le_of_ble_eq_true rfl)⟩ d_Mo_destOf_11 (fun H locs hS => ?_)
      refine lv_istore (lv' := [(4, .int t2), (0, .ref (base + l0)), (1, .int l1), (2, .int l2), (3, .int l3)]) hx hb d_Mo_destOf_14 hl (by decide) rfl (fun ls hl => ?_)
      refine lv_aload_n hx hb d_Mo_destOf_16 rfl (lv_at hl 1 rfl) ?_
      obtain ⟨t3, et3, hM⟩ := bS hM
      refine r_getR C hS fl_Mo_35 et3 d_Mo_destOf_17 ?_
      refine lv_sipush (v := (445 : Int32)) hx hb d_Mo_destOf_20 (by decide) ?_
      refine lv_iload_n hx hb d_Mo_destOf_23 rfl (lv_at hl 2 rfl) ?_
      refine lv_imul hx hb d_Mo_destOf_24 ?_
      refine lv_iload hx hb d_Mo_destOf_25 (lv_at hl 0 rfl) ?_
      refine lv_iadd hx hb d_Mo_destOf_27 ?_
      obtain ⟨t4, et4, hM⟩ := bS hM
      refine r_iald C hS et4 d_Mo_destOf_28 ?_
      refine lv_istore (lv' := [(5, .int t4), (4, .int t2), (0, .ref (base + l0)), (1, .int l1), (2, .int l2), (3, .int l3)]) hx hb d_Mo_destOf_29 hl (by decide) rfl (fun ls hl => ?_)
      refine lv_iload hx hb d_Mo_destOf_31 (lv_at hl 0 rfl) ?_
      refine lv_if_lt (tgt := 54) hx hb d_Mo_destOf_33 (by decide) (fun c33_2 => ?_) (fun c33_2 => ?_)
      · rw [if_pos c33_2] at hM
        refine lv_iinc (v := (l3 + (-1 : Int32))) (lv' := [(3, .int (l3 + (-1 : Int32))), (5, .int t4), (4, .int t2), (0, .ref (base + l0)), (1, .int l1), (2, .int l2)]) hx hb d_Mo_destOf_54 hl (k := 5) rfl (by rw [oi_m1]) (by decide) rfl (fun ls hl => ?_)
        refine lv_goto (tgt := 5) hx hb d_Mo_destOf_57 (by decide) ?_
        exact ih (l3 + (-1 : Int32)) h hM _ _ _ hS (lv_sub hl [3, 4, 5, 0] rfl)
      · rw [if_neg c33_2] at hM
        refine lv_aload_n hx hb d_Mo_destOf_36 rfl (lv_at hl 2 rfl) ?_
        refine lv_iload_n hx hb d_Mo_destOf_37 rfl (lv_at hl 3 rfl) ?_
        refine lv_iload hx hb d_Mo_destOf_38 (lv_at hl 1 rfl) ?_
        obtain ⟨q5, eq5, hM⟩ := bS hM
        refine r_callVi (x := q5.1) C hS cv_Mo_201 (c_Mo_isLoop l base D cI cZ h l0 l1 t2 eq5) (o_Mo_isLoop eq5) (rest := []) rfl hl.1 rfl (Nat.le_of_ble_eq_true rfl) ⟨(Nat.le_of_ble_eq_true rfl), (Nat.le_of_ble_eq_true rfl)⟩ ⟨(Nat.le_of_ble_eq_true rfl), (Nat.le_of_ble_eq_true rfl)⟩ d_Mo_destOf_40 (fun H locs hS => ?_)
        refine lv_if_ne (tgt := 54) hx hb d_Mo_destOf_43 (by decide) (fun c43_3 => ?_) (fun c43_3 => ?_)
        · rw [if_neg c43_3] at hM
          refine lv_iinc (v := (l3 + (-1 : Int32))) (lv' := [(3, .int (l3 + (-1 : Int32))), (5, .int t4), (4, .int t2), (0, .ref (base + l0)), (1, .int l1), (2, .int l2)]) hx hb d_Mo_destOf_54 hl (k := 5) rfl (by rw [oi_m1]) (by decide) rfl (fun ls hl => ?_)
          refine lv_goto (tgt := 5) hx hb d_Mo_destOf_57 (by decide) ?_
          exact ih (l3 + (-1 : Int32)) q5.2 hM _ _ _ hS (lv_sub hl [3, 4, 5, 0] rfl)
        · rw [if_pos c43_3] at hM
          refine lv_iload hx hb d_Mo_destOf_46 (lv_at hl 0 rfl) ?_
          refine lv_iload_n hx hb d_Mo_destOf_48 rfl (lv_at hl 4 rfl) ?_
          refine lv_iload_n hx hb d_Mo_destOf_49 rfl (lv_at hl 5 rfl) ?_
          obtain ⟨t6, et6, hM⟩ := bS hM
          refine r_callSi (x := t6) C hS cs_Mo_213 (c_Mo_joined l base D cI cZ q5.2 t4 l2 l3 et6) (rest := []) rfl hl.1 rfl (Nat.le_of_ble_eq_true rfl) ⟨(Nat.le_of_ble_eq_true rfl), (Nat.le_of_ble_eq_true rfl)⟩ ⟨(Nat.le_of_ble_eq_true rfl), (Nat.le_of_ble_eq_true rfl)⟩ d_Mo_destOf_50 (fun H locs hS => ?_)
          obtain rfl := Option.some.inj hM
          exact r_iret C hS d_Mo_destOf_53
def f_Mo_destOf (h : Hp) (l0 : Nat) (l1 : Int32) (l2 : Int32) : Option (Int32 × Hp) :=
  ck h 9 l0 (
    (f_Mo_lettersIn l2).bind fun t1 =>
    f_Mo_destOf_5 l0 l1 l2 FU t1 h
  )
theorem o_Mo_destOf {h : Hp} {l0 : Nat} {l1 : Int32} {l2 : Int32} {r : (Int32 × Hp)} (hM : f_Mo_destOf h l0 l1 l2 = some r) : isO h 9 l0 = true := by
  unfold f_Mo_destOf at hM
  exact (ck_some hM).1
set_option maxHeartbeats 4000000 in
set_option maxRecDepth 100000 in
theorem t_Mo_destOf {h : Hp} {l0 : Nat} {l1 : Int32} {l2 : Int32} {r : (Int32 × Hp)} (C : Cx base D cI cZ b_Mo_destOf 6 "MovedFoldersModel" "destOf" (some .int) p s m args meth c) (hM : f_Mo_destOf h l0 l1 l2 = some r) (H : Heap) (locs : List Loc) (ls : Array Slot) (hS : RS base D cI cZ s H locs h) (hl : lv_has ls 6 [(0, .ref (base + l0)), (1, .int l1), (2, .int l2)]) : Wg l base D cI cZ 3 66 0 0 r.2 (some (.int r.1)) p e s m args below meth c H locs 0 0 (F0 m 0 ls []) := by
  have hx := C.1
  have hb := C.2.1
  unfold f_Mo_destOf at hM
  replace hM := (ck_some hM).2
  refine lv_iload_n hx hb d_Mo_destOf_0 rfl (lv_at hl 2 rfl) ?_
  obtain ⟨t1, et1, hM⟩ := bS hM
  refine r_callSi (x := t1) C hS cs_Mo_207 (c_Mo_lettersIn l base D cI cZ h l2 et1) (rest := []) rfl hl.1 rfl (Nat.le_of_ble_eq_true rfl) ⟨(Nat.le_of_ble_eq_true rfl), (Nat.le_of_ble_eq_true rfl)⟩ ⟨(Nat.le_of_ble_eq_true rfl), (Nat.le_of_ble_eq_true rfl)⟩ d_Mo_destOf_1 (fun H locs hS => ?_)
  refine lv_istore_n (lv' := [(3, .int t1), (0, .ref (base + l0)), (1, .int l1), (2, .int l2)]) hx hb d_Mo_destOf_4 rfl hl (by decide) rfl (fun ls hl => ?_)
  exact t_Mo_destOf_5  C  FU t1 h hM _ _ _ hS (lv_sub hl [1, 2, 3, 0] rfl)
theorem c_Mo_destOf (l : Launch) (base : Nat) (D : va_G) (cI cZ : ClassId) (h : Hp) (l0 : Nat) (l1 : Int32) (l2 : Int32) {r : (Int32 × Hp)} (hM : f_Mo_destOf h l0 l1 l2 = some r) : Ct l base D cI cZ y_Mo_destOf b_Mo_destOf 6 (some .int) 3 66 0 0 h [.ref (base + l0), .int l1, .int l2] r.2 (some (.int r.1)) :=
  ct_of (by decide) (Nat.le_of_ble_eq_true rfl) (fun p e s m below meth c ls C hS hl => t_Mo_destOf C hM _ _ _ hS hl)
theorem d_Mo_dest_0 : decode b_Mo_dest 0 = .ok (.iload_n 1, 1) := by decide +kernel
theorem d_Mo_dest_1 : decode b_Mo_dest 1 = .ok (.invokestatic 135, 3) := by decide +kernel
theorem d_Mo_dest_4 : decode b_Mo_dest 4 = .ok (.ifCond .ne 5, 3) := by decide +kernel
theorem d_Mo_dest_7 : decode b_Mo_dest 7 = .ok (.iconst (-1), 1) := by decide +kernel
theorem d_Mo_dest_8 : decode b_Mo_dest 8 = .ok (.ireturn, 1) := by decide +kernel
theorem d_Mo_dest_9 : decode b_Mo_dest 9 = .ok (.iload_n 2, 1) := by decide +kernel
theorem d_Mo_dest_10 : decode b_Mo_dest 10 = .ok (.invokestatic 186, 3) := by decide +kernel
theorem d_Mo_dest_13 : decode b_Mo_dest 13 = .ok (.ifCond .ne 6, 3) := by decide +kernel
theorem d_Mo_dest_16 : decode b_Mo_dest 16 = .ok (.bipush (-2), 2) := by decide +kernel
theorem d_Mo_dest_18 : decode b_Mo_dest 18 = .ok (.ireturn, 1) := by decide +kernel
theorem d_Mo_dest_19 : decode b_Mo_dest 19 = .ok (.aload_n 0, 1) := by decide +kernel
theorem d_Mo_dest_20 : decode b_Mo_dest 20 = .ok (.invokevirtual 198, 3) := by decide +kernel
theorem d_Mo_dest_23 : decode b_Mo_dest 23 = .ok (.aload_n 0, 1) := by decide +kernel
theorem d_Mo_dest_24 : decode b_Mo_dest 24 = .ok (.iload_n 1, 1) := by decide +kernel
theorem d_Mo_dest_25 : decode b_Mo_dest 25 = .ok (.iload_n 2, 1) := by decide +kernel
theorem d_Mo_dest_26 : decode b_Mo_dest 26 = .ok (.invokevirtual 216, 3) := by decide +kernel
theorem d_Mo_dest_29 : decode b_Mo_dest 29 = .ok (.ireturn, 1) := by decide +kernel
def f_Mo_dest (h : Hp) (l0 : Nat) (l1 : Int32) (l2 : Int32) : Option (Int32 × Hp) :=
  ck h 9 l0 (
    (f_Mo_isSide l1).bind fun t1 =>
    if t1 = (0 : Int32) then (
      some ((-1 : Int32), h)
    ) else (
      (f_Mo_isFolder l2).bind fun t2 =>
      if t2 = (0 : Int32) then (
        some ((-2 : Int32), h)
      ) else (
        (f_Mo_findBoth h l0).bind fun h3 =>
        (f_Mo_destOf h3 l0 l1 l2).bind fun q4 =>
        some (q4.1, q4.2)
      )
    )
  )
theorem o_Mo_dest {h : Hp} {l0 : Nat} {l1 : Int32} {l2 : Int32} {r : (Int32 × Hp)} (hM : f_Mo_dest h l0 l1 l2 = some r) : isO h 9 l0 = true := by
  unfold f_Mo_dest at hM
  exact (ck_some hM).1
set_option maxHeartbeats 4000000 in
set_option maxRecDepth 100000 in
theorem t_Mo_dest {h : Hp} {l0 : Nat} {l1 : Int32} {l2 : Int32} {r : (Int32 × Hp)} (C : Cx base D cI cZ b_Mo_dest 3 "MovedFoldersModel" "dest" (some .int) p s m args meth c) (hM : f_Mo_dest h l0 l1 l2 = some r) (H : Heap) (locs : List Loc) (ls : Array Slot) (hS : RS base D cI cZ s H locs h) (hl : lv_has ls 3 [(0, .ref (base + l0)), (1, .int l1), (2, .int l2)]) : Wg l base D cI cZ 7 166 0 0 r.2 (some (.int r.1)) p e s m args below meth c H locs 0 0 (F0 m 0 ls []) := by
  have hx := C.1
  have hb := C.2.1
  unfold f_Mo_dest at hM
  replace hM := (ck_some hM).2
  refine lv_iload_n hx hb d_Mo_dest_0 rfl (lv_at hl 1 rfl) ?_
  obtain ⟨t1, et1, hM⟩ := bS hM
  refine r_callSi (x := t1) C hS cs_Mo_135 (c_Mo_isSide l base D cI cZ h l1 et1) (rest := []) rfl hl.1 rfl (Nat.le_of_ble_eq_true rfl) ⟨(Nat.le_of_ble_eq_true rfl), (Nat.le_of_ble_eq_true rfl)⟩ ⟨(Nat.le_of_ble_eq_true rfl), (Nat.le_of_ble_eq_true rfl)⟩ d_Mo_dest_1 (fun H locs hS => ?_)
  refine lv_if_ne (tgt := 9) hx hb d_Mo_dest_4 (by decide) (fun c4_1 => ?_) (fun c4_1 => ?_)
  · rw [if_neg c4_1] at hM
    refine lv_iload_n hx hb d_Mo_dest_9 rfl (lv_at hl 2 rfl) ?_
    obtain ⟨t2, et2, hM⟩ := bS hM
    refine r_callSi (x := t2) C hS cs_Mo_186 (c_Mo_isFolder l base D cI cZ h l2 et2) (rest := []) rfl hl.1 rfl (Nat.le_of_ble_eq_true rfl) ⟨(Nat.le_of_ble_eq_true rfl), (Nat.le_of_ble_eq_true rfl)⟩ ⟨(Nat.le_of_ble_eq_true rfl), (Nat.le_of_ble_eq_true rfl)⟩ d_Mo_dest_10 (fun H locs hS => ?_)
    refine lv_if_ne (tgt := 19) hx hb d_Mo_dest_13 (by decide) (fun c13_2 => ?_) (fun c13_2 => ?_)
    · rw [if_neg c13_2] at hM
      refine lv_aload_n hx hb d_Mo_dest_19 rfl (lv_at hl 0 rfl) ?_
      obtain ⟨h3, eh3, hM⟩ := bS hM
      refine r_callVv C hS cv_Mo_198 (c_Mo_findBoth l base D cI cZ h l0 eh3) (o_Mo_findBoth eh3) (rest := []) rfl hl.1 rfl (Nat.le_of_ble_eq_true rfl) ⟨(Nat.le_of_ble_eq_true rfl), (Nat.le_of_ble_eq_true rfl)⟩ ⟨(Nat.le_of_ble_eq_true rfl), (Nat.le_of_ble_eq_true rfl)⟩ d_Mo_dest_20 (fun H locs hS => ?_)
      refine lv_aload_n hx hb d_Mo_dest_23 rfl (lv_at hl 0 rfl) ?_
      refine lv_iload_n hx hb d_Mo_dest_24 rfl (lv_at hl 1 rfl) ?_
      refine lv_iload_n hx hb d_Mo_dest_25 rfl (lv_at hl 2 rfl) ?_
      obtain ⟨q4, eq4, hM⟩ := bS hM
      refine r_callVi (x := q4.1) C hS cv_Mo_216 (c_Mo_destOf l base D cI cZ h3 l0 l1 l2 eq4) (o_Mo_destOf eq4) (rest := []) rfl hl.1 rfl (Nat.le_of_ble_eq_true rfl) ⟨(Nat.le_of_ble_eq_true rfl), (Nat.le_of_ble_eq_true rfl)⟩ ⟨(Nat.le_of_ble_eq_true rfl), (Nat.le_of_ble_eq_true rfl)⟩ d_Mo_dest_26 (fun H locs hS => ?_)
      obtain rfl := Option.some.inj hM
      exact r_iret C hS d_Mo_dest_29
    · rw [if_pos c13_2] at hM
      refine lv_bipush (v := (-2 : Int32)) hx hb d_Mo_dest_16 (by decide) ?_
      obtain rfl := Option.some.inj hM
      exact r_iret C hS d_Mo_dest_18
  · rw [if_pos c4_1] at hM
    refine lv_iconst (v := (-1 : Int32)) hx hb d_Mo_dest_7 (by decide) ?_
    obtain rfl := Option.some.inj hM
    exact r_iret C hS d_Mo_dest_8
theorem c_Mo_dest (l : Launch) (base : Nat) (D : va_G) (cI cZ : ClassId) (h : Hp) (l0 : Nat) (l1 : Int32) (l2 : Int32) {r : (Int32 × Hp)} (hM : f_Mo_dest h l0 l1 l2 = some r) : Ct l base D cI cZ y_Mo_dest b_Mo_dest 3 (some .int) 7 166 0 0 h [.ref (base + l0), .int l1, .int l2] r.2 (some (.int r.1)) :=
  ct_of (by decide) (Nat.le_of_ble_eq_true rfl) (fun p e s m below meth c ls C hS hl => t_Mo_dest C hM _ _ _ hS hl)
theorem d_Mo_addEntry_0 : decode b_Mo_addEntry 0 = .ok (.aload_n 0, 1) := by decide +kernel
theorem d_Mo_addEntry_1 : decode b_Mo_addEntry 1 = .ok (.getfield 42, 3) := by decide +kernel
theorem d_Mo_addEntry_4 : decode b_Mo_addEntry 4 = .ok (.aload_n 0, 1) := by decide +kernel
theorem d_Mo_addEntry_5 : decode b_Mo_addEntry 5 = .ok (.getfield 219, 3) := by decide +kernel
theorem d_Mo_addEntry_8 : decode b_Mo_addEntry 8 = .ok (.iload_n 1, 1) := by decide +kernel
theorem d_Mo_addEntry_9 : decode b_Mo_addEntry 9 = .ok (.iastore, 1) := by decide +kernel
theorem d_Mo_addEntry_10 : decode b_Mo_addEntry 10 = .ok (.aload_n 0, 1) := by decide +kernel
theorem d_Mo_addEntry_11 : decode b_Mo_addEntry 11 = .ok (.getfield 45, 3) := by decide +kernel
theorem d_Mo_addEntry_14 : decode b_Mo_addEntry 14 = .ok (.aload_n 0, 1) := by decide +kernel
theorem d_Mo_addEntry_15 : decode b_Mo_addEntry 15 = .ok (.getfield 219, 3) := by decide +kernel
theorem d_Mo_addEntry_18 : decode b_Mo_addEntry 18 = .ok (.iload_n 2, 1) := by decide +kernel
theorem d_Mo_addEntry_19 : decode b_Mo_addEntry 19 = .ok (.iastore, 1) := by decide +kernel
theorem d_Mo_addEntry_20 : decode b_Mo_addEntry 20 = .ok (.aload_n 0, 1) := by decide +kernel
theorem d_Mo_addEntry_21 : decode b_Mo_addEntry 21 = .ok (.getfield 48, 3) := by decide +kernel
theorem d_Mo_addEntry_24 : decode b_Mo_addEntry 24 = .ok (.aload_n 0, 1) := by decide +kernel
theorem d_Mo_addEntry_25 : decode b_Mo_addEntry 25 = .ok (.getfield 219, 3) := by decide +kernel
theorem d_Mo_addEntry_28 : decode b_Mo_addEntry 28 = .ok (.iload_n 3, 1) := by decide +kernel
theorem d_Mo_addEntry_29 : decode b_Mo_addEntry 29 = .ok (.iastore, 1) := by decide +kernel
theorem d_Mo_addEntry_30 : decode b_Mo_addEntry 30 = .ok (.aload_n 0, 1) := by decide +kernel
theorem d_Mo_addEntry_31 : decode b_Mo_addEntry 31 = .ok (.getfield 51, 3) := by decide +kernel
theorem d_Mo_addEntry_34 : decode b_Mo_addEntry 34 = .ok (.aload_n 0, 1) := by decide +kernel
theorem d_Mo_addEntry_35 : decode b_Mo_addEntry 35 = .ok (.getfield 219, 3) := by decide +kernel
theorem d_Mo_addEntry_38 : decode b_Mo_addEntry 38 = .ok (.iload 4, 2) := by decide +kernel
theorem d_Mo_addEntry_40 : decode b_Mo_addEntry 40 = .ok (.iastore, 1) := by decide +kernel
theorem d_Mo_addEntry_41 : decode b_Mo_addEntry 41 = .ok (.aload_n 0, 1) := by decide +kernel
theorem d_Mo_addEntry_42 : decode b_Mo_addEntry 42 = .ok (.dup, 1) := by decide +kernel
theorem d_Mo_addEntry_43 : decode b_Mo_addEntry 43 = .ok (.getfield 219, 3) := by decide +kernel
theorem d_Mo_addEntry_46 : decode b_Mo_addEntry 46 = .ok (.iconst 1, 1) := by decide +kernel
theorem d_Mo_addEntry_47 : decode b_Mo_addEntry 47 = .ok (.iadd, 1) := by decide +kernel
theorem d_Mo_addEntry_48 : decode b_Mo_addEntry 48 = .ok (.putfield 219, 3) := by decide +kernel
theorem d_Mo_addEntry_51 : decode b_Mo_addEntry 51 = .ok (.return_, 1) := by decide +kernel
def f_Mo_addEntry (h : Hp) (l0 : Nat) (l1 : Int32) (l2 : Int32) (l3 : Int32) (l4 : Int32) : Option Hp :=
  ck h 9 l0 (
    (gR h 9 l0 16).bind fun t1 =>
    (gI h 9 l0 20).bind fun t2 =>
    (sA h t1 t2 l1).bind fun h3 =>
    (gR h3 9 l0 17).bind fun t4 =>
    (gI h3 9 l0 20).bind fun t5 =>
    (sA h3 t4 t5 l2).bind fun h6 =>
    (gR h6 9 l0 18).bind fun t7 =>
    (gI h6 9 l0 20).bind fun t8 =>
    (sA h6 t7 t8 l3).bind fun h9 =>
    (gR h9 9 l0 19).bind fun t10 =>
    (gI h9 9 l0 20).bind fun t11 =>
    (sA h9 t10 t11 l4).bind fun h12 =>
    (gI h12 9 l0 20).bind fun t13 =>
    (sI h12 9 l0 20 (t13 + (1 : Int32))).bind fun h14 =>
    some h14
  )
theorem o_Mo_addEntry {h : Hp} {l0 : Nat} {l1 : Int32} {l2 : Int32} {l3 : Int32} {l4 : Int32} {r : Hp} (hM : f_Mo_addEntry h l0 l1 l2 l3 l4 = some r) : isO h 9 l0 = true := by
  unfold f_Mo_addEntry at hM
  exact (ck_some hM).1
set_option maxHeartbeats 4000000 in
set_option maxRecDepth 100000 in
theorem t_Mo_addEntry {h : Hp} {l0 : Nat} {l1 : Int32} {l2 : Int32} {l3 : Int32} {l4 : Int32} {r : Hp} (C : Cx base D cI cZ b_Mo_addEntry 5 "MovedFoldersModel" "addEntry" none p s m args meth c) (hM : f_Mo_addEntry h l0 l1 l2 l3 l4 = some r) (H : Heap) (locs : List Loc) (ls : Array Slot) (hS : RS base D cI cZ s H locs h) (hl : lv_has ls 5 [(0, .ref (base + l0)), (1, .int l1), (2, .int l2), (3, .int l3), (4, .int l4)]) : Wg l base D cI cZ 0 0 0 0 r none p e s m args below meth c H locs 0 0 (F0 m 0 ls []) := by
  have hx := C.1
  have hb := C.2.1
  unfold f_Mo_addEntry at hM
  replace hM := (ck_some hM).2
  refine lv_aload_n hx hb d_Mo_addEntry_0 rfl (lv_at hl 0 rfl) ?_
  obtain ⟨t1, et1, hM⟩ := bS hM
  refine r_getR C hS fl_Mo_42 et1 d_Mo_addEntry_1 ?_
  refine lv_aload_n hx hb d_Mo_addEntry_4 rfl (lv_at hl 0 rfl) ?_
  obtain ⟨t2, et2, hM⟩ := bS hM
  refine r_getI C hS fl_Mo_219 et2 d_Mo_addEntry_5 ?_
  refine lv_iload_n hx hb d_Mo_addEntry_8 rfl (lv_at hl 1 rfl) ?_
  obtain ⟨h3, eh3, hM⟩ := bS hM
  refine r_iast C hS eh3 d_Mo_addEntry_9 (fun H locs hS => ?_)
  refine lv_aload_n hx hb d_Mo_addEntry_10 rfl (lv_at hl 0 rfl) ?_
  obtain ⟨t4, et4, hM⟩ := bS hM
  refine r_getR C hS fl_Mo_45 et4 d_Mo_addEntry_11 ?_
  refine lv_aload_n hx hb d_Mo_addEntry_14 rfl (lv_at hl 0 rfl) ?_
  obtain ⟨t5, et5, hM⟩ := bS hM
  refine r_getI C hS fl_Mo_219 et5 d_Mo_addEntry_15 ?_
  refine lv_iload_n hx hb d_Mo_addEntry_18 rfl (lv_at hl 2 rfl) ?_
  obtain ⟨h6, eh6, hM⟩ := bS hM
  refine r_iast C hS eh6 d_Mo_addEntry_19 (fun H locs hS => ?_)
  refine lv_aload_n hx hb d_Mo_addEntry_20 rfl (lv_at hl 0 rfl) ?_
  obtain ⟨t7, et7, hM⟩ := bS hM
  refine r_getR C hS fl_Mo_48 et7 d_Mo_addEntry_21 ?_
  refine lv_aload_n hx hb d_Mo_addEntry_24 rfl (lv_at hl 0 rfl) ?_
  obtain ⟨t8, et8, hM⟩ := bS hM
  refine r_getI C hS fl_Mo_219 et8 d_Mo_addEntry_25 ?_
  refine lv_iload_n hx hb d_Mo_addEntry_28 rfl (lv_at hl 3 rfl) ?_
  obtain ⟨h9, eh9, hM⟩ := bS hM
  refine r_iast C hS eh9 d_Mo_addEntry_29 (fun H locs hS => ?_)
  refine lv_aload_n hx hb d_Mo_addEntry_30 rfl (lv_at hl 0 rfl) ?_
  obtain ⟨t10, et10, hM⟩ := bS hM
  refine r_getR C hS fl_Mo_51 et10 d_Mo_addEntry_31 ?_
  refine lv_aload_n hx hb d_Mo_addEntry_34 rfl (lv_at hl 0 rfl) ?_
  obtain ⟨t11, et11, hM⟩ := bS hM
  refine r_getI C hS fl_Mo_219 et11 d_Mo_addEntry_35 ?_
  refine lv_iload hx hb d_Mo_addEntry_38 (lv_at hl 4 rfl) ?_
  obtain ⟨h12, eh12, hM⟩ := bS hM
  refine r_iast C hS eh12 d_Mo_addEntry_40 (fun H locs hS => ?_)
  refine lv_aload_n hx hb d_Mo_addEntry_41 rfl (lv_at hl 0 rfl) ?_
  refine lv_dup hx hb d_Mo_addEntry_42 rfl ?_
  obtain ⟨t13, et13, hM⟩ := bS hM
  refine r_getI C hS fl_Mo_219 et13 d_Mo_addEntry_43 ?_
  refine lv_iconst (v := (1 : Int32)) hx hb d_Mo_addEntry_46 (by decide) ?_
  refine lv_iadd hx hb d_Mo_addEntry_47 ?_
  obtain ⟨h14, eh14, hM⟩ := bS hM
  refine r_putI C hS fp_Mo_219 eh14 d_Mo_addEntry_48 (fun H locs hS => ?_)
  obtain rfl := Option.some.inj hM
  exact r_vret C hS d_Mo_addEntry_51
theorem c_Mo_addEntry (l : Launch) (base : Nat) (D : va_G) (cI cZ : ClassId) (h : Hp) (l0 : Nat) (l1 : Int32) (l2 : Int32) (l3 : Int32) (l4 : Int32) {r : Hp} (hM : f_Mo_addEntry h l0 l1 l2 l3 l4 = some r) : Ct l base D cI cZ y_Mo_addEntry b_Mo_addEntry 5 none 0 0 0 0 h [.ref (base + l0), .int l1, .int l2, .int l3, .int l4] r none :=
  ct_of (by decide) (Nat.le_of_ble_eq_true rfl) (fun p e s m below meth c ls C hS hl => t_Mo_addEntry C hM _ _ _ hS hl)
theorem d_Mo_oneOf_0 : decode b_Mo_oneOf 0 = .ok (.iload_n 2, 1) := by decide +kernel
theorem d_Mo_oneOf_1 : decode b_Mo_oneOf 1 = .ok (.iload_n 3, 1) := by decide +kernel
theorem d_Mo_oneOf_2 : decode b_Mo_oneOf 2 = .ok (.if_icmp .eq 8, 3) := by decide +kernel
theorem d_Mo_oneOf_5 : decode b_Mo_oneOf 5 = .ok (.iload_n 3, 1) := by decide +kernel
theorem d_Mo_oneOf_6 : decode b_Mo_oneOf 6 = .ok (.iload_n 1, 1) := by decide +kernel
theorem d_Mo_oneOf_7 : decode b_Mo_oneOf 7 = .ok (.if_icmp .ne 5, 3) := by decide +kernel
theorem d_Mo_oneOf_10 : decode b_Mo_oneOf 10 = .ok (.iload_n 2, 1) := by decide +kernel
theorem d_Mo_oneOf_11 : decode b_Mo_oneOf 11 = .ok (.ireturn, 1) := by decide +kernel
theorem d_Mo_oneOf_12 : decode b_Mo_oneOf 12 = .ok (.iload_n 2, 1) := by decide +kernel
theorem d_Mo_oneOf_13 : decode b_Mo_oneOf 13 = .ok (.iload_n 1, 1) := by decide +kernel
theorem d_Mo_oneOf_14 : decode b_Mo_oneOf 14 = .ok (.if_icmp .ne 5, 3) := by decide +kernel
theorem d_Mo_oneOf_17 : decode b_Mo_oneOf 17 = .ok (.iload_n 3, 1) := by decide +kernel
theorem d_Mo_oneOf_18 : decode b_Mo_oneOf 18 = .ok (.ireturn, 1) := by decide +kernel
theorem d_Mo_oneOf_19 : decode b_Mo_oneOf 19 = .ok (.aload_n 0, 1) := by decide +kernel
theorem d_Mo_oneOf_20 : decode b_Mo_oneOf 20 = .ok (.dup, 1) := by decide +kernel
theorem d_Mo_oneOf_21 : decode b_Mo_oneOf 21 = .ok (.getfield 222, 3) := by decide +kernel
theorem d_Mo_oneOf_24 : decode b_Mo_oneOf 24 = .ok (.iload 4, 2) := by decide +kernel
theorem d_Mo_oneOf_26 : decode b_Mo_oneOf 26 = .ok (.ior, 1) := by decide +kernel
theorem d_Mo_oneOf_27 : decode b_Mo_oneOf 27 = .ok (.putfield 222, 3) := by decide +kernel
theorem d_Mo_oneOf_30 : decode b_Mo_oneOf 30 = .ok (.iload_n 2, 1) := by decide +kernel
theorem d_Mo_oneOf_31 : decode b_Mo_oneOf 31 = .ok (.iload_n 3, 1) := by decide +kernel
theorem d_Mo_oneOf_32 : decode b_Mo_oneOf 32 = .ok (.invokestatic 147, 3) := by decide +kernel
theorem d_Mo_oneOf_35 : decode b_Mo_oneOf 35 = .ok (.ireturn, 1) := by decide +kernel
def f_Mo_oneOf (h : Hp) (l0 : Nat) (l1 : Int32) (l2 : Int32) (l3 : Int32) (l4 : Int32) : Option (Int32 × Hp) :=
  ck h 9 l0 (
    if l2 = l3 then (
      some (l2, h)
    ) else (
      if l3 = l1 then (
        some (l2, h)
      ) else (
        if l2 = l1 then (
          some (l3, h)
        ) else (
          (gI h 9 l0 21).bind fun t1 =>
          (sI h 9 l0 21 (t1 ||| l4)).bind fun h2 =>
          (f_Mo_less l2 l3).bind fun t3 =>
          some (t3, h2)
        )
      )
    )
  )
theorem o_Mo_oneOf {h : Hp} {l0 : Nat} {l1 : Int32} {l2 : Int32} {l3 : Int32} {l4 : Int32} {r : (Int32 × Hp)} (hM : f_Mo_oneOf h l0 l1 l2 l3 l4 = some r) : isO h 9 l0 = true := by
  unfold f_Mo_oneOf at hM
  exact (ck_some hM).1
set_option maxHeartbeats 4000000 in
set_option maxRecDepth 100000 in
theorem t_Mo_oneOf {h : Hp} {l0 : Nat} {l1 : Int32} {l2 : Int32} {l3 : Int32} {l4 : Int32} {r : (Int32 × Hp)} (C : Cx base D cI cZ b_Mo_oneOf 5 "MovedFoldersModel" "oneOf" (some .int) p s m args meth c) (hM : f_Mo_oneOf h l0 l1 l2 l3 l4 = some r) (H : Heap) (locs : List Loc) (ls : Array Slot) (hS : RS base D cI cZ s H locs h) (hl : lv_has ls 5 [(0, .ref (base + l0)), (1, .int l1), (2, .int l2), (3, .int l3), (4, .int l4)]) : Wg l base D cI cZ 1 21 0 0 r.2 (some (.int r.1)) p e s m args below meth c H locs 0 0 (F0 m 0 ls []) := by
  have hx := C.1
  have hb := C.2.1
  unfold f_Mo_oneOf at hM
  replace hM := (ck_some hM).2
  refine lv_iload_n hx hb d_Mo_oneOf_0 rfl (lv_at hl 2 rfl) ?_
  refine lv_iload_n hx hb d_Mo_oneOf_1 rfl (lv_at hl 3 rfl) ?_
  refine lv_icmp_eq (tgt := 10) hx hb d_Mo_oneOf_2 (by decide) (fun c2_1 => ?_) (fun c2_1 => ?_)
  · rw [if_pos c2_1] at hM
    refine lv_iload_n hx hb d_Mo_oneOf_10 rfl (lv_at hl 2 rfl) ?_
    obtain rfl := Option.some.inj hM
    exact r_iret C hS d_Mo_oneOf_11
  · rw [if_neg c2_1] at hM
    refine lv_iload_n hx hb d_Mo_oneOf_5 rfl (lv_at hl 3 rfl) ?_
    refine lv_iload_n hx hb d_Mo_oneOf_6 rfl (lv_at hl 1 rfl) ?_
    refine lv_icmp_ne (tgt := 12) hx hb d_Mo_oneOf_7 (by decide) (fun c7_2 => ?_) (fun c7_2 => ?_)
    · rw [if_neg c7_2] at hM
      refine lv_iload_n hx hb d_Mo_oneOf_12 rfl (lv_at hl 2 rfl) ?_
      refine lv_iload_n hx hb d_Mo_oneOf_13 rfl (lv_at hl 1 rfl) ?_
      refine lv_icmp_ne (tgt := 19) hx hb d_Mo_oneOf_14 (by decide) (fun c14_3 => ?_) (fun c14_3 => ?_)
      · rw [if_neg c14_3] at hM
        refine lv_aload_n hx hb d_Mo_oneOf_19 rfl (lv_at hl 0 rfl) ?_
        refine lv_dup hx hb d_Mo_oneOf_20 rfl ?_
        obtain ⟨t1, et1, hM⟩ := bS hM
        refine r_getI C hS fl_Mo_222 et1 d_Mo_oneOf_21 ?_
        refine lv_iload hx hb d_Mo_oneOf_24 (lv_at hl 4 rfl) ?_
        refine lv_ior hx hb d_Mo_oneOf_26 ?_
        obtain ⟨h2, eh2, hM⟩ := bS hM
        refine r_putI C hS fp_Mo_222 eh2 d_Mo_oneOf_27 (fun H locs hS => ?_)
        refine lv_iload_n hx hb d_Mo_oneOf_30 rfl (lv_at hl 2 rfl) ?_
        refine lv_iload_n hx hb d_Mo_oneOf_31 rfl (lv_at hl 3 rfl) ?_
        obtain ⟨t3, et3, hM⟩ := bS hM
        refine r_callSi (x := t3) C hS cs_Mo_147 (c_Mo_less l base D cI cZ h2 l2 l3 et3) (rest := []) rfl hl.1 rfl (Nat.le_of_ble_eq_true rfl) ⟨(Nat.le_of_ble_eq_true rfl), (Nat.le_of_ble_eq_true rfl)⟩ ⟨(Nat.le_of_ble_eq_true rfl), (Nat.le_of_ble_eq_true rfl)⟩ d_Mo_oneOf_32 (fun H locs hS => ?_)
        obtain rfl := Option.some.inj hM
        exact r_iret C hS d_Mo_oneOf_35
      · rw [if_pos c14_3] at hM
        refine lv_iload_n hx hb d_Mo_oneOf_17 rfl (lv_at hl 3 rfl) ?_
        obtain rfl := Option.some.inj hM
        exact r_iret C hS d_Mo_oneOf_18
    · rw [if_pos c7_2] at hM
      refine lv_iload_n hx hb d_Mo_oneOf_10 rfl (lv_at hl 2 rfl) ?_
      obtain rfl := Option.some.inj hM
      exact r_iret C hS d_Mo_oneOf_11
theorem c_Mo_oneOf (l : Launch) (base : Nat) (D : va_G) (cI cZ : ClassId) (h : Hp) (l0 : Nat) (l1 : Int32) (l2 : Int32) (l3 : Int32) (l4 : Int32) {r : (Int32 × Hp)} (hM : f_Mo_oneOf h l0 l1 l2 l3 l4 = some r) : Ct l base D cI cZ y_Mo_oneOf b_Mo_oneOf 5 (some .int) 1 21 0 0 h [.ref (base + l0), .int l1, .int l2, .int l3, .int l4] r.2 (some (.int r.1)) :=
  ct_of (by decide) (Nat.le_of_ble_eq_true rfl) (fun p e s m below meth c ls C hS hl => t_Mo_oneOf C hM _ _ _ hS hl)
theorem d_Mo_folderOf_0 : decode b_Mo_folderOf 0 = .ok (.iload_n 2, 1) := by decide +kernel
theorem d_Mo_folderOf_1 : decode b_Mo_folderOf 1 = .ok (.iload_n 3, 1) := by decide +kernel
theorem d_Mo_folderOf_2 : decode b_Mo_folderOf 2 = .ok (.if_icmp .eq 15, 3) := by decide +kernel
theorem d_Mo_folderOf_5 : decode b_Mo_folderOf 5 = .ok (.iload_n 2, 1) := by decide +kernel
theorem d_Mo_folderOf_6 : decode b_Mo_folderOf 6 = .ok (.iload_n 1, 1) := by decide +kernel
theorem d_Mo_folderOf_7 : decode b_Mo_folderOf 7 = .ok (.if_icmp .ne 10, 3) := by decide +kernel
theorem d_Mo_folderOf_10 : decode b_Mo_folderOf 10 = .ok (.aload_n 0, 1) := by decide +kernel
theorem d_Mo_folderOf_11 : decode b_Mo_folderOf 11 = .ok (.iconst 1, 1) := by decide +kernel
theorem d_Mo_folderOf_12 : decode b_Mo_folderOf 12 = .ok (.iload_n 3, 1) := by decide +kernel
theorem d_Mo_folderOf_13 : decode b_Mo_folderOf 13 = .ok (.invokevirtual 216, 3) := by decide +kernel
theorem d_Mo_folderOf_16 : decode b_Mo_folderOf 16 = .ok (.ireturn, 1) := by decide +kernel
theorem d_Mo_folderOf_17 : decode b_Mo_folderOf 17 = .ok (.iload_n 2, 1) := by decide +kernel
theorem d_Mo_folderOf_18 : decode b_Mo_folderOf 18 = .ok (.iload_n 3, 1) := by decide +kernel
theorem d_Mo_folderOf_19 : decode b_Mo_folderOf 19 = .ok (.if_icmp .eq 15, 3) := by decide +kernel
theorem d_Mo_folderOf_22 : decode b_Mo_folderOf 22 = .ok (.iload_n 3, 1) := by decide +kernel
theorem d_Mo_folderOf_23 : decode b_Mo_folderOf 23 = .ok (.iload_n 1, 1) := by decide +kernel
theorem d_Mo_folderOf_24 : decode b_Mo_folderOf 24 = .ok (.if_icmp .ne 10, 3) := by decide +kernel
theorem d_Mo_folderOf_27 : decode b_Mo_folderOf 27 = .ok (.aload_n 0, 1) := by decide +kernel
theorem d_Mo_folderOf_28 : decode b_Mo_folderOf 28 = .ok (.iconst 2, 1) := by decide +kernel
theorem d_Mo_folderOf_29 : decode b_Mo_folderOf 29 = .ok (.iload_n 2, 1) := by decide +kernel
theorem d_Mo_folderOf_30 : decode b_Mo_folderOf 30 = .ok (.invokevirtual 216, 3) := by decide +kernel
theorem d_Mo_folderOf_33 : decode b_Mo_folderOf 33 = .ok (.ireturn, 1) := by decide +kernel
theorem d_Mo_folderOf_34 : decode b_Mo_folderOf 34 = .ok (.aload_n 0, 1) := by decide +kernel
theorem d_Mo_folderOf_35 : decode b_Mo_folderOf 35 = .ok (.iload_n 1, 1) := by decide +kernel
theorem d_Mo_folderOf_36 : decode b_Mo_folderOf 36 = .ok (.iload_n 2, 1) := by decide +kernel
theorem d_Mo_folderOf_37 : decode b_Mo_folderOf 37 = .ok (.iload_n 3, 1) := by decide +kernel
theorem d_Mo_folderOf_38 : decode b_Mo_folderOf 38 = .ok (.iconst 1, 1) := by decide +kernel
theorem d_Mo_folderOf_39 : decode b_Mo_folderOf 39 = .ok (.invokevirtual 225, 3) := by decide +kernel
theorem d_Mo_folderOf_42 : decode b_Mo_folderOf 42 = .ok (.ireturn, 1) := by decide +kernel
def f_Mo_folderOf_34 (h : Hp) (l0 : Nat) (l1 : Int32) (l2 : Int32) (l3 : Int32) : Option (Int32 × Hp) :=
  (f_Mo_oneOf h l0 l1 l2 l3 (1 : Int32)).bind fun q1 =>
  some (q1.1, q1.2)
set_option maxHeartbeats 4000000 in
set_option maxRecDepth 100000 in
theorem t_Mo_folderOf_34 {h : Hp} {l0 : Nat} {l1 : Int32} {l2 : Int32} {l3 : Int32} {r : (Int32 × Hp)} (C : Cx base D cI cZ b_Mo_folderOf 4 "MovedFoldersModel" "folderOf" (some .int) p s m args meth c)  (hM : f_Mo_folderOf_34 h l0 l1 l2 l3 = some r) (H : Heap) (locs : List Loc) (ls : Array Slot) (hS : RS base D cI cZ s H locs h) (hl : lv_has ls 4 [(0, .ref (base + l0)), (1, .int l1), (2, .int l2), (3, .int l3)]) : Wg l base D cI cZ 4 91 0 0 r.2 (some (.int r.1)) p e s m args below meth c H locs 0 0 (F0 m 34 ls []) := by
  have hx := C.1
  have hb := C.2.1
  unfold f_Mo_folderOf_34 at hM
  refine lv_aload_n hx hb d_Mo_folderOf_34 rfl (lv_at hl 0 rfl) ?_
  refine lv_iload_n hx hb d_Mo_folderOf_35 rfl (lv_at hl 1 rfl) ?_
  refine lv_iload_n hx hb d_Mo_folderOf_36 rfl (lv_at hl 2 rfl) ?_
  refine lv_iload_n hx hb d_Mo_folderOf_37 rfl (lv_at hl 3 rfl) ?_
  refine lv_iconst (v := (1 : Int32)) hx hb d_Mo_folderOf_38 (by decide) ?_
  obtain ⟨q1, eq1, hM⟩ := bS hM
  refine r_callVi (x := q1.1) C hS cv_Mo_225 (c_Mo_oneOf l base D cI cZ h l0 l1 l2 l3 (1 : Int32) eq1) (o_Mo_oneOf eq1) (rest := []) rfl hl.1 rfl (Nat.le_of_ble_eq_true rfl) ⟨(Nat.le_of_ble_eq_true rfl), (Nat.le_of_ble_eq_true rfl)⟩ ⟨(Nat.le_of_ble_eq_true rfl), (Nat.le_of_ble_eq_true rfl)⟩ d_Mo_folderOf_39 (fun H locs hS => ?_)
  obtain rfl := Option.some.inj hM
  exact r_iret C hS d_Mo_folderOf_42
def f_Mo_folderOf_17 (h : Hp) (l0 : Nat) (l1 : Int32) (l2 : Int32) (l3 : Int32) : Option (Int32 × Hp) :=
  if l2 = l3 then (
    f_Mo_folderOf_34 h l0 l1 l2 l3
  ) else (
    if l3 = l1 then (
      (f_Mo_destOf h l0 (2 : Int32) l2).bind fun q2 =>
      some (q2.1, q2.2)
    ) else (
      f_Mo_folderOf_34 h l0 l1 l2 l3
    )
  )
set_option maxHeartbeats 4000000 in
set_option maxRecDepth 100000 in
theorem t_Mo_folderOf_17 {h : Hp} {l0 : Nat} {l1 : Int32} {l2 : Int32} {l3 : Int32} {r : (Int32 × Hp)} (C : Cx base D cI cZ b_Mo_folderOf 4 "MovedFoldersModel" "folderOf" (some .int) p s m args meth c)  (hM : f_Mo_folderOf_17 h l0 l1 l2 l3 = some r) (H : Heap) (locs : List Loc) (ls : Array Slot) (hS : RS base D cI cZ s H locs h) (hl : lv_has ls 4 [(0, .ref (base + l0)), (1, .int l1), (2, .int l2), (3, .int l3)]) : Wg l base D cI cZ 4 91 0 0 r.2 (some (.int r.1)) p e s m args below meth c H locs 0 0 (F0 m 17 ls []) := by
  have hx := C.1
  have hb := C.2.1
  unfold f_Mo_folderOf_17 at hM
  refine lv_iload_n hx hb d_Mo_folderOf_17 rfl (lv_at hl 2 rfl) ?_
  refine lv_iload_n hx hb d_Mo_folderOf_18 rfl (lv_at hl 3 rfl) ?_
  refine lv_icmp_eq (tgt := 34) hx hb d_Mo_folderOf_19 (by decide) (fun c19_2 => ?_) (fun c19_2 => ?_)
  · rw [if_pos c19_2] at hM
    exact t_Mo_folderOf_34  C  hM _ _ _ hS (lv_sub hl [0, 1, 2, 3] rfl)
  · rw [if_neg c19_2] at hM
    refine lv_iload_n hx hb d_Mo_folderOf_22 rfl (lv_at hl 3 rfl) ?_
    refine lv_iload_n hx hb d_Mo_folderOf_23 rfl (lv_at hl 1 rfl) ?_
    refine lv_icmp_ne (tgt := 34) hx hb d_Mo_folderOf_24 (by decide) (fun c24_3 => ?_) (fun c24_3 => ?_)
    · rw [if_neg c24_3] at hM
      exact t_Mo_folderOf_34  C  hM _ _ _ hS (lv_sub hl [0, 1, 2, 3] rfl)
    · rw [if_pos c24_3] at hM
      refine lv_aload_n hx hb d_Mo_folderOf_27 rfl (lv_at hl 0 rfl) ?_
      refine lv_iconst (v := (2 : Int32)) hx hb d_Mo_folderOf_28 (by decide) ?_
      refine lv_iload_n hx hb d_Mo_folderOf_29 rfl (lv_at hl 2 rfl) ?_
      obtain ⟨q2, eq2, hM⟩ := bS hM
      refine r_callVi (x := q2.1) C hS cv_Mo_216 (c_Mo_destOf l base D cI cZ h l0 (2 : Int32) l2 eq2) (o_Mo_destOf eq2) (rest := []) rfl hl.1 rfl (Nat.le_of_ble_eq_true rfl) ⟨(Nat.le_of_ble_eq_true rfl), (Nat.le_of_ble_eq_true rfl)⟩ ⟨(Nat.le_of_ble_eq_true rfl), (Nat.le_of_ble_eq_true rfl)⟩ d_Mo_folderOf_30 (fun H locs hS => ?_)
      obtain rfl := Option.some.inj hM
      exact r_iret C hS d_Mo_folderOf_33
def f_Mo_folderOf (h : Hp) (l0 : Nat) (l1 : Int32) (l2 : Int32) (l3 : Int32) : Option (Int32 × Hp) :=
  ck h 9 l0 (
    if l2 = l3 then (
      f_Mo_folderOf_17 h l0 l1 l2 l3
    ) else (
      if l2 = l1 then (
        (f_Mo_destOf h l0 (1 : Int32) l3).bind fun q3 =>
        some (q3.1, q3.2)
      ) else (
        f_Mo_folderOf_17 h l0 l1 l2 l3
      )
    )
  )
theorem o_Mo_folderOf {h : Hp} {l0 : Nat} {l1 : Int32} {l2 : Int32} {l3 : Int32} {r : (Int32 × Hp)} (hM : f_Mo_folderOf h l0 l1 l2 l3 = some r) : isO h 9 l0 = true := by
  unfold f_Mo_folderOf at hM
  exact (ck_some hM).1
set_option maxHeartbeats 4000000 in
set_option maxRecDepth 100000 in
theorem t_Mo_folderOf {h : Hp} {l0 : Nat} {l1 : Int32} {l2 : Int32} {l3 : Int32} {r : (Int32 × Hp)} (C : Cx base D cI cZ b_Mo_folderOf 4 "MovedFoldersModel" "folderOf" (some .int) p s m args meth c) (hM : f_Mo_folderOf h l0 l1 l2 l3 = some r) (H : Heap) (locs : List Loc) (ls : Array Slot) (hS : RS base D cI cZ s H locs h) (hl : lv_has ls 4 [(0, .ref (base + l0)), (1, .int l1), (2, .int l2), (3, .int l3)]) : Wg l base D cI cZ 4 91 0 0 r.2 (some (.int r.1)) p e s m args below meth c H locs 0 0 (F0 m 0 ls []) := by
  have hx := C.1
  have hb := C.2.1
  unfold f_Mo_folderOf at hM
  replace hM := (ck_some hM).2
  refine lv_iload_n hx hb d_Mo_folderOf_0 rfl (lv_at hl 2 rfl) ?_
  refine lv_iload_n hx hb d_Mo_folderOf_1 rfl (lv_at hl 3 rfl) ?_
  refine lv_icmp_eq (tgt := 17) hx hb d_Mo_folderOf_2 (by decide) (fun c2_1 => ?_) (fun c2_1 => ?_)
  · rw [if_pos c2_1] at hM
    exact t_Mo_folderOf_17  C  hM _ _ _ hS (lv_sub hl [0, 1, 2, 3] rfl)
  · rw [if_neg c2_1] at hM
    refine lv_iload_n hx hb d_Mo_folderOf_5 rfl (lv_at hl 2 rfl) ?_
    refine lv_iload_n hx hb d_Mo_folderOf_6 rfl (lv_at hl 1 rfl) ?_
    refine lv_icmp_ne (tgt := 17) hx hb d_Mo_folderOf_7 (by decide) (fun c7_4 => ?_) (fun c7_4 => ?_)
    · rw [if_neg c7_4] at hM
      exact t_Mo_folderOf_17  C  hM _ _ _ hS (lv_sub hl [0, 1, 2, 3] rfl)
    · rw [if_pos c7_4] at hM
      refine lv_aload_n hx hb d_Mo_folderOf_10 rfl (lv_at hl 0 rfl) ?_
      refine lv_iconst (v := (1 : Int32)) hx hb d_Mo_folderOf_11 (by decide) ?_
      refine lv_iload_n hx hb d_Mo_folderOf_12 rfl (lv_at hl 3 rfl) ?_
      obtain ⟨q3, eq3, hM⟩ := bS hM
      refine r_callVi (x := q3.1) C hS cv_Mo_216 (c_Mo_destOf l base D cI cZ h l0 (1 : Int32) l3 eq3) (o_Mo_destOf eq3) (rest := []) rfl hl.1 rfl (Nat.le_of_ble_eq_true rfl) ⟨(Nat.le_of_ble_eq_true rfl), (Nat.le_of_ble_eq_true rfl)⟩ ⟨(Nat.le_of_ble_eq_true rfl), (Nat.le_of_ble_eq_true rfl)⟩ d_Mo_folderOf_13 (fun H locs hS => ?_)
      obtain rfl := Option.some.inj hM
      exact r_iret C hS d_Mo_folderOf_16
theorem c_Mo_folderOf (l : Launch) (base : Nat) (D : va_G) (cI cZ : ClassId) (h : Hp) (l0 : Nat) (l1 : Int32) (l2 : Int32) (l3 : Int32) {r : (Int32 × Hp)} (hM : f_Mo_folderOf h l0 l1 l2 l3 = some r) : Ct l base D cI cZ y_Mo_folderOf b_Mo_folderOf 4 (some .int) 4 91 0 0 h [.ref (base + l0), .int l1, .int l2, .int l3] r.2 (some (.int r.1)) :=
  ct_of (by decide) (Nat.le_of_ble_eq_true rfl) (fun p e s m below meth c ls C hS hl => t_Mo_folderOf C hM _ _ _ hS hl)
end MM8
