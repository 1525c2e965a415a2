section MM5
variable {l : Launch} {base : Nat} {D : va_G} {cI cZ : ClassId} {p : Program} {e : Env} {s : State} {m : MethodId} {args : Array Value} {below : List Frame} {meth : Method} {c : Code}
theorem d_MF_alike_0 : decode b_MF_alike 0 = .ok (.aload_n 0, 1) := by decide +kernel
theorem d_MF_alike_1 : decode b_MF_alike 1 = .ok (.iload_n 1, 1) := by decide +kernel
theorem d_MF_alike_2 : decode b_MF_alike 2 = .ok (.iload_n 2, 1) := by decide +kernel
theorem d_MF_alike_3 : decode b_MF_alike 3 = .ok (.invokevirtual 95, 3) := by decide +kernel
theorem d_MF_alike_6 : decode b_MF_alike 6 = .ok (.ifCond .eq 13, 3) := by decide +kernel
theorem d_MF_alike_9 : decode b_MF_alike 9 = .ok (.aload_n 0, 1) := by decide +kernel
theorem d_MF_alike_10 : decode b_MF_alike 10 = .ok (.iload_n 3, 1) := by decide +kernel
theorem d_MF_alike_11 : decode b_MF_alike 11 = .ok (.iload 4, 2) := by decide +kernel
theorem d_MF_alike_13 : decode b_MF_alike 13 = .ok (.invokevirtual 95, 3) := by decide +kernel
theorem d_MF_alike_16 : decode b_MF_alike 16 = .ok (.ifCond .ne 5, 3) := by decide +kernel
theorem d_MF_alike_19 : decode b_MF_alike 19 = .ok (.iconst (-1), 1) := by decide +kernel
theorem d_MF_alike_20 : decode b_MF_alike 20 = .ok (.ireturn, 1) := by decide +kernel
theorem d_MF_alike_21 : decode b_MF_alike 21 = .ok (.aload_n 0, 1) := by decide +kernel
theorem d_MF_alike_22 : decode b_MF_alike 22 = .ok (.iload_n 1, 1) := by decide +kernel
theorem d_MF_alike_23 : decode b_MF_alike 23 = .ok (.invokevirtual 78, 3) := by decide +kernel
theorem d_MF_alike_26 : decode b_MF_alike 26 = .ok (.iload_n 2, 1) := by decide +kernel
theorem d_MF_alike_27 : decode b_MF_alike 27 = .ok (.invokevirtual 106, 3) := by decide +kernel
theorem d_MF_alike_30 : decode b_MF_alike 30 = .ok (.aload_n 0, 1) := by decide +kernel
theorem d_MF_alike_31 : decode b_MF_alike 31 = .ok (.iload_n 3, 1) := by decide +kernel
theorem d_MF_alike_32 : decode b_MF_alike 32 = .ok (.invokevirtual 78, 3) := by decide +kernel
theorem d_MF_alike_35 : decode b_MF_alike 35 = .ok (.iload 4, 2) := by decide +kernel
theorem d_MF_alike_37 : decode b_MF_alike 37 = .ok (.invokevirtual 106, 3) := by decide +kernel
theorem d_MF_alike_40 : decode b_MF_alike 40 = .ok (.invokestatic 124, 3) := by decide +kernel
theorem d_MF_alike_43 : decode b_MF_alike 43 = .ok (.ireturn, 1) := by decide +kernel
def f_MF_alike (h : Hp) (l0 : Nat) (l1 : Int32) (l2 : Int32) (l3 : Int32) (l4 : Int32) : Option Int32 :=
  ck h 8 l0 (
    (f_MF_isFile h l0 l1 l2).bind fun t1 =>
    if t1 = (0 : Int32) then (
      some (-1 : Int32)
    ) else (
      (f_MF_isFile h l0 l3 l4).bind fun t2 =>
      if t2 = (0 : Int32) then (
        some (-1 : Int32)
      ) else (
        (f_MF_treeOf h l0 l1).bind fun t3 =>
        (f_Tree_contentAt h t3 l2).bind fun t4 =>
        (f_MF_treeOf h l0 l3).bind fun t5 =>
        (f_Tree_contentAt h t5 l4).bind fun t6 =>
        (f_Pieces_likeness t4 t6).bind fun t7 =>
        some t7
      )
    )
  )
theorem o_MF_alike {h : Hp} {l0 : Nat} {l1 : Int32} {l2 : Int32} {l3 : Int32} {l4 : Int32} {r : Int32} (hM : f_MF_alike h l0 l1 l2 l3 l4 = some r) : isO h 8 l0 = true := by
  unfold f_MF_alike at hM
  exact (ck_some hM).1
set_option maxHeartbeats 4000000 in
set_option maxRecDepth 100000 in
theorem t_MF_alike {h : Hp} {l0 : Nat} {l1 : Int32} {l2 : Int32} {l3 : Int32} {l4 : Int32} {r : Int32} (C : Cx base D cI cZ b_MF_alike 5 "MovedFolders" "alike" (some .int) p s m args meth c) (hM : f_MF_alike h l0 l1 l2 l3 l4 = some r) (H : Heap) (locs : List Loc) (ls : Array Slot) (hS : RS base D cI cZ s H locs h) (hl : lv_has ls 5 [(0, .ref (base + l0)), (1, .int l1), (2, .int l2), (3, .int l3), (4, .int l4)]) : Wg l base D cI cZ 3 74 0 0 h (some (.int r)) p e s m args below meth c H locs 0 0 (F0 m 0 ls []) := by
  have hx := C.1
  have hb := C.2.1
  unfold f_MF_alike at hM
  replace hM := (ck_some hM).2
  refine lv_aload_n hx hb d_MF_alike_0 rfl (lv_at hl 0 rfl) ?_
  refine lv_iload_n hx hb d_MF_alike_1 rfl (lv_at hl 1 rfl) ?_
  refine lv_iload_n hx hb d_MF_alike_2 rfl (lv_at hl 2 rfl) ?_
  obtain ⟨t1, et1, hM⟩ := bS hM
  refine r_callVi (x := t1) C hS cv_MF_95 (c_MF_isFile l base D cI cZ h l0 l1 l2 et1) (o_MF_isFile et1) (rest := []) rfl hl.1 rfl (Nat.le_of_ble_eq_true rfl) ⟨(Nat.le_of_ble_eq_true rfl), (Nat.le_of_ble_eq_true rfl)⟩ ⟨(Nat.le_of_ble_eq_true rfl), (Nat.le_of_ble_eq_true rfl)⟩ d_MF_alike_3 (fun H locs hS => ?_)
  refine lv_if_eq (tgt := 19) hx hb d_MF_alike_6 (by decide) (fun c6_1 => ?_) (fun c6_1 => ?_)
  · rw [if_pos c6_1] at hM
    refine lv_iconst (v := (-1 : Int32)) hx hb d_MF_alike_19 (by decide) ?_
    obtain rfl := Option.some.inj hM
    exact r_iret C hS d_MF_alike_20
  · rw [if_neg c6_1] at hM
    refine lv_aload_n hx hb d_MF_alike_9 rfl (lv_at hl 0 rfl) ?_
    refine lv_iload_n hx hb d_MF_alike_10 rfl (lv_at hl 3 rfl) ?_
    refine lv_iload hx hb d_MF_alike_11 (lv_at hl 4 rfl) ?_
    obtain ⟨t2, et2, hM⟩ := bS hM
    refine r_callVi (x := t2) C hS cv_MF_95 (c_MF_isFile l base D cI cZ h l0 l3 l4 et2) (o_MF_isFile et2) (rest := []) rfl hl.1 rfl (Nat.le_of_ble_eq_true rfl) ⟨(Nat.le_of_ble_eq_true rfl), (Nat.le_of_ble_eq_true rfl)⟩ ⟨(Nat.le_of_ble_eq_true rfl), (Nat.le_of_ble_eq_true rfl)⟩ d_MF_alike_13 (fun H locs hS => ?_)
    refine lv_if_ne (tgt := 21) hx hb d_MF_alike_16 (by decide) (fun c16_2 => ?_) (fun c16_2 => ?_)
    · rw [if_neg c16_2] at hM
      refine lv_aload_n hx hb d_MF_alike_21 rfl (lv_at hl 0 rfl) ?_
      refine lv_iload_n hx hb d_MF_alike_22 rfl (lv_at hl 1 rfl) ?_
      obtain ⟨t3, et3, hM⟩ := bS hM
      refine r_callVr (x := t3) C hS cv_MF_78 (c_MF_treeOf l base D cI cZ h l0 l1 et3) (o_MF_treeOf et3) (rest := []) rfl hl.1 rfl (Nat.le_of_ble_eq_true rfl) ⟨(Nat.le_of_ble_eq_true rfl), (Nat.le_of_ble_eq_true rfl)⟩ ⟨(Nat.le_of_ble_eq_true rfl), (Nat.le_of_ble_eq_true rfl)⟩ d_MF_alike_23 (fun H locs hS => ?_)
      refine lv_iload_n hx hb d_MF_alike_26 rfl (lv_at hl 2 rfl) ?_
      obtain ⟨t4, et4, hM⟩ := bS hM
      refine r_callVi (x := t4) C hS cv_MF_106 (c_Tree_contentAt l base D cI cZ h t3 l2 et4) (o_Tree_contentAt et4) (rest := []) rfl hl.1 rfl (Nat.le_of_ble_eq_true rfl) ⟨(Nat.le_of_ble_eq_true rfl), (Nat.le_of_ble_eq_true rfl)⟩ ⟨(Nat.le_of_ble_eq_true rfl), (Nat.le_of_ble_eq_true rfl)⟩ d_MF_alike_27 (fun H locs hS => ?_)
      refine lv_aload_n hx hb d_MF_alike_30 rfl (lv_at hl 0 rfl) ?_
      refine lv_iload_n hx hb d_MF_alike_31 rfl (lv_at hl 3 rfl) ?_
      obtain ⟨t5, et5, hM⟩ := bS hM
      refine r_callVr (x := t5) C hS cv_MF_78 (c_MF_treeOf l base D cI cZ h l0 l3 et5) (o_MF_treeOf et5) (rest := [.int t4]) rfl hl.1 rfl (Nat.le_of_ble_eq_true rfl) ⟨(Nat.le_of_ble_eq_true rfl), (Nat.le_of_ble_eq_true rfl)⟩ ⟨(Nat.le_of_ble_eq_true rfl), (Nat.le_of_ble_eq_true rfl)⟩ d_MF_alike_32 (fun H locs hS => ?_)
      refine lv_iload hx hb d_MF_alike_35 (lv_at hl 4 rfl) ?_
      obtain ⟨t6, et6, hM⟩ := bS hM
      refine r_callVi (x := t6) C hS cv_MF_106 (c_Tree_contentAt l base D cI cZ h t5 l4 et6) (o_Tree_contentAt et6) (rest := [.int t4]) rfl hl.1 rfl (Nat.le_of_ble_eq_true rfl) ⟨(Nat.le_of_ble_eq_true rfl), (Nat.le_of_ble_eq_true rfl)⟩ ⟨(Nat.le_of_ble_eq_true rfl), (Nat.le_of_ble_eq_true rfl)⟩ d_MF_alike_37 (fun H locs hS => ?_)
      obtain ⟨t7, et7, hM⟩ := bS hM
      refine r_callSi (x := t7) C hS cs_MF_124 (c_Pieces_likeness l base D cI cZ h t4 t6 et7) (rest := []) rfl hl.1 rfl (Nat.le_of_ble_eq_true rfl) ⟨(Nat.le_of_ble_eq_true rfl), (Nat.le_of_ble_eq_true rfl)⟩ ⟨(Nat.le_of_ble_eq_true rfl), (Nat.le_of_ble_eq_true rfl)⟩ d_MF_alike_40 (fun H locs hS => ?_)
      obtain rfl := Option.some.inj hM
      exact r_iret C hS d_MF_alike_43
    · rw [if_pos c16_2] at hM
      refine lv_iconst (v := (-1 : Int32)) hx hb d_MF_alike_19 (by decide) ?_
      obtain rfl := Option.some.inj hM
      exact r_iret C hS d_MF_alike_20
theorem c_MF_alike (l : Launch) (base : Nat) (D : va_G) (cI cZ : ClassId) (h : Hp) (l0 : Nat) (l1 : Int32) (l2 : Int32) (l3 : Int32) (l4 : Int32) {r : Int32} (hM : f_MF_alike h l0 l1 l2 l3 l4 = some r) : Ct l base D cI cZ y_MF_alike b_MF_alike 5 (some .int) 3 74 0 0 h [.ref (base + l0), .int l1, .int l2, .int l3, .int l4] h (some (.int r)) :=
  ct_of (by decide) (Nat.le_of_ble_eq_true rfl) (fun p e s m below meth c ls C hS hl => t_MF_alike C hM _ _ _ hS hl)
theorem d_MF_refresh_0 : decode b_MF_refresh 0 = .ok (.aload_n 0, 1) := by decide +kernel
theorem d_MF_refresh_1 : decode b_MF_refresh 1 = .ok (.getfield 57, 3) := by decide +kernel
theorem d_MF_refresh_4 : decode b_MF_refresh 4 = .ok (.ifCond .eq 4, 3) := by decide +kernel
theorem d_MF_refresh_7 : decode b_MF_refresh 7 = .ok (.return_, 1) := by decide +kernel
theorem d_MF_refresh_8 : decode b_MF_refresh 8 = .ok (.aload_n 0, 1) := by decide +kernel
theorem d_MF_refresh_9 : decode b_MF_refresh 9 = .ok (.getfield 36, 3) := by decide +kernel
theorem d_MF_refresh_12 : decode b_MF_refresh 12 = .ok (.getfield 137, 3) := by decide +kernel
theorem d_MF_refresh_15 : decode b_MF_refresh 15 = .ok (.aload_n 0, 1) := by decide +kernel
theorem d_MF_refresh_16 : decode b_MF_refresh 16 = .ok (.getfield 19, 3) := by decide +kernel
theorem d_MF_refresh_19 : decode b_MF_refresh 19 = .ok (.getfield 112, 3) := by decide +kernel
theorem d_MF_refresh_22 : decode b_MF_refresh 22 = .ok (.aload_n 0, 1) := by decide +kernel
theorem d_MF_refresh_23 : decode b_MF_refresh 23 = .ok (.getfield 19, 3) := by decide +kernel
theorem d_MF_refresh_26 : decode b_MF_refresh 26 = .ok (.getfield 189, 3) := by decide +kernel
theorem d_MF_refresh_29 : decode b_MF_refresh 29 = .ok (.aload_n 0, 1) := by decide +kernel
theorem d_MF_refresh_30 : decode b_MF_refresh 30 = .ok (.getfield 19, 3) := by decide +kernel
theorem d_MF_refresh_33 : decode b_MF_refresh 33 = .ok (.getfield 120, 3) := by decide +kernel
theorem d_MF_refresh_36 : decode b_MF_refresh 36 = .ok (.invokevirtual 213, 3) := by decide +kernel
theorem d_MF_refresh_39 : decode b_MF_refresh 39 = .ok (.aload_n 0, 1) := by decide +kernel
theorem d_MF_refresh_40 : decode b_MF_refresh 40 = .ok (.getfield 40, 3) := by decide +kernel
theorem d_MF_refresh_43 : decode b_MF_refresh 43 = .ok (.getfield 137, 3) := by decide +kernel
theorem d_MF_refresh_46 : decode b_MF_refresh 46 = .ok (.aload_n 0, 1) := by decide +kernel
theorem d_MF_refresh_47 : decode b_MF_refresh 47 = .ok (.getfield 19, 3) := by decide +kernel
theorem d_MF_refresh_50 : decode b_MF_refresh 50 = .ok (.getfield 112, 3) := by decide +kernel
theorem d_MF_refresh_53 : decode b_MF_refresh 53 = .ok (.aload_n 0, 1) := by decide +kernel
theorem d_MF_refresh_54 : decode b_MF_refresh 54 = .ok (.getfield 19, 3) := by decide +kernel
theorem d_MF_refresh_57 : decode b_MF_refresh 57 = .ok (.getfield 192, 3) := by decide +kernel
theorem d_MF_refresh_60 : decode b_MF_refresh 60 = .ok (.aload_n 0, 1) := by decide +kernel
theorem d_MF_refresh_61 : decode b_MF_refresh 61 = .ok (.getfield 19, 3) := by decide +kernel
theorem d_MF_refresh_64 : decode b_MF_refresh 64 = .ok (.getfield 120, 3) := by decide +kernel
theorem d_MF_refresh_67 : decode b_MF_refresh 67 = .ok (.invokevirtual 213, 3) := by decide +kernel
theorem d_MF_refresh_70 : decode b_MF_refresh 70 = .ok (.aload_n 0, 1) := by decide +kernel
theorem d_MF_refresh_71 : decode b_MF_refresh 71 = .ok (.getfield 36, 3) := by decide +kernel
theorem d_MF_refresh_74 : decode b_MF_refresh 74 = .ok (.getfield 161, 3) := by decide +kernel
theorem d_MF_refresh_77 : decode b_MF_refresh 77 = .ok (.aload_n 0, 1) := by decide +kernel
theorem d_MF_refresh_78 : decode b_MF_refresh 78 = .ok (.getfield 19, 3) := by decide +kernel
theorem d_MF_refresh_81 : decode b_MF_refresh 81 = .ok (.getfield 112, 3) := by decide +kernel
theorem d_MF_refresh_84 : decode b_MF_refresh 84 = .ok (.aload_n 0, 1) := by decide +kernel
theorem d_MF_refresh_85 : decode b_MF_refresh 85 = .ok (.getfield 19, 3) := by decide +kernel
theorem d_MF_refresh_88 : decode b_MF_refresh 88 = .ok (.getfield 189, 3) := by decide +kernel
theorem d_MF_refresh_91 : decode b_MF_refresh 91 = .ok (.aload_n 0, 1) := by decide +kernel
theorem d_MF_refresh_92 : decode b_MF_refresh 92 = .ok (.getfield 36, 3) := by decide +kernel
theorem d_MF_refresh_95 : decode b_MF_refresh 95 = .ok (.getfield 137, 3) := by decide +kernel
theorem d_MF_refresh_98 : decode b_MF_refresh 98 = .ok (.invokevirtual 217, 3) := by decide +kernel
theorem d_MF_refresh_101 : decode b_MF_refresh 101 = .ok (.aload_n 0, 1) := by decide +kernel
theorem d_MF_refresh_102 : decode b_MF_refresh 102 = .ok (.getfield 40, 3) := by decide +kernel
theorem d_MF_refresh_105 : decode b_MF_refresh 105 = .ok (.getfield 161, 3) := by decide +kernel
theorem d_MF_refresh_108 : decode b_MF_refresh 108 = .ok (.aload_n 0, 1) := by decide +kernel
theorem d_MF_refresh_109 : decode b_MF_refresh 109 = .ok (.getfield 19, 3) := by decide +kernel
theorem d_MF_refresh_112 : decode b_MF_refresh 112 = .ok (.getfield 112, 3) := by decide +kernel
theorem d_MF_refresh_115 : decode b_MF_refresh 115 = .ok (.aload_n 0, 1) := by decide +kernel
theorem d_MF_refresh_116 : decode b_MF_refresh 116 = .ok (.getfield 19, 3) := by decide +kernel
theorem d_MF_refresh_119 : decode b_MF_refresh 119 = .ok (.getfield 192, 3) := by decide +kernel
theorem d_MF_refresh_122 : decode b_MF_refresh 122 = .ok (.aload_n 0, 1) := by decide +kernel
theorem d_MF_refresh_123 : decode b_MF_refresh 123 = .ok (.getfield 40, 3) := by decide +kernel
theorem d_MF_refresh_126 : decode b_MF_refresh 126 = .ok (.getfield 137, 3) := by decide +kernel
theorem d_MF_refresh_129 : decode b_MF_refresh 129 = .ok (.invokevirtual 217, 3) := by decide +kernel
theorem d_MF_refresh_132 : decode b_MF_refresh 132 = .ok (.aload_n 0, 1) := by decide +kernel
theorem d_MF_refresh_133 : decode b_MF_refresh 133 = .ok (.getfield 46, 3) := by decide +kernel
theorem d_MF_refresh_136 : decode b_MF_refresh 136 = .ok (.aload_n 0, 1) := by decide +kernel
theorem d_MF_refresh_137 : decode b_MF_refresh 137 = .ok (.getfield 36, 3) := by decide +kernel
theorem d_MF_refresh_140 : decode b_MF_refresh 140 = .ok (.getfield 161, 3) := by decide +kernel
theorem d_MF_refresh_143 : decode b_MF_refresh 143 = .ok (.aload_n 0, 1) := by decide +kernel
theorem d_MF_refresh_144 : decode b_MF_refresh 144 = .ok (.getfield 40, 3) := by decide +kernel
theorem d_MF_refresh_147 : decode b_MF_refresh 147 = .ok (.getfield 161, 3) := by decide +kernel
theorem d_MF_refresh_150 : decode b_MF_refresh 150 = .ok (.invokevirtual 220, 3) := by decide +kernel
theorem d_MF_refresh_153 : decode b_MF_refresh 153 = .ok (.aload_n 0, 1) := by decide +kernel
theorem d_MF_refresh_154 : decode b_MF_refresh 154 = .ok (.getfield 53, 3) := by decide +kernel
theorem d_MF_refresh_157 : decode b_MF_refresh 157 = .ok (.aload_n 0, 1) := by decide +kernel
theorem d_MF_refresh_158 : decode b_MF_refresh 158 = .ok (.getfield 19, 3) := by decide +kernel
theorem d_MF_refresh_161 : decode b_MF_refresh 161 = .ok (.aload_n 0, 1) := by decide +kernel
theorem d_MF_refresh_162 : decode b_MF_refresh 162 = .ok (.getfield 36, 3) := by decide +kernel
theorem d_MF_refresh_165 : decode b_MF_refresh 165 = .ok (.aload_n 0, 1) := by decide +kernel
theorem d_MF_refresh_166 : decode b_MF_refresh 166 = .ok (.getfield 40, 3) := by decide +kernel
theorem d_MF_refresh_169 : decode b_MF_refresh 169 = .ok (.invokevirtual 224, 3) := by decide +kernel
theorem d_MF_refresh_172 : decode b_MF_refresh 172 = .ok (.aload_n 0, 1) := by decide +kernel
theorem d_MF_refresh_173 : decode b_MF_refresh 173 = .ok (.iconst 1, 1) := by decide +kernel
theorem d_MF_refresh_174 : decode b_MF_refresh 174 = .ok (.putfield 57, 3) := by decide +kernel
theorem d_MF_refresh_177 : decode b_MF_refresh 177 = .ok (.return_, 1) := by decide +kernel
def f_MF_refresh (h : Hp) (l0 : Nat) : Option Hp :=
  ck h 8 l0 (
    (gI h 8 l0 9).bind fun t1 =>
    if t1 = (0 : Int32) then (
      (gR h 8 l0 5).bind fun t2 =>
      (gR h 6 t2 0).bind fun t3 =>
      (gR h 8 l0 1).bind fun t4 =>
      (gR h 0 t4 0).bind fun t5 =>
      (gR h 8 l0 1).bind fun t6 =>
      (gR h 0 t6 1).bind fun t7 =>
      (gR h 8 l0 1).bind fun t8 =>
      (gI h 0 t8 3).bind fun t9 =>
      (f_Pairs_find h t3 t5 t7 t9).bind fun h10 =>
      (gR h10 8 l0 6).bind fun t11 =>
      (gR h10 6 t11 0).bind fun t12 =>
      (gR h10 8 l0 1).bind fun t13 =>
      (gR h10 0 t13 0).bind fun t14 =>
      (gR h10 8 l0 1).bind fun t15 =>
      (gR h10 0 t15 2).bind fun t16 =>
      (gR h10 8 l0 1).bind fun t17 =>
      (gI h10 0 t17 3).bind fun t18 =>
      (f_Pairs_find h10 t12 t14 t16 t18).bind fun h19 =>
      (gR h19 8 l0 5).bind fun t20 =>
      (gR h19 6 t20 1).bind fun t21 =>
      (gR h19 8 l0 1).bind fun t22 =>
      (gR h19 0 t22 0).bind fun t23 =>
      (gR h19 8 l0 1).bind fun t24 =>
      (gR h19 0 t24 1).bind fun t25 =>
      (gR h19 8 l0 5).bind fun t26 =>
      (gR h19 6 t26 0).bind fun t27 =>
      (f_Moves_find h19 t21 t23 t25 t27).bind fun h28 =>
      (gR h28 8 l0 6).bind fun t29 =>
      (gR h28 6 t29 1).bind fun t30 =>
      (gR h28 8 l0 1).bind fun t31 =>
      (gR h28 0 t31 0).bind fun t32 =>
      (gR h28 8 l0 1).bind fun t33 =>
      (gR h28 0 t33 2).bind fun t34 =>
      (gR h28 8 l0 6).bind fun t35 =>
      (gR h28 6 t35 0).bind fun t36 =>
      (f_Moves_find h28 t30 t32 t34 t36).bind fun h37 =>
      (gR h37 8 l0 7).bind fun t38 =>
      (gR h37 8 l0 5).bind fun t39 =>
      (gR h37 6 t39 1).bind fun t40 =>
      (gR h37 8 l0 6).bind fun t41 =>
      (gR h37 6 t41 1).bind fun t42 =>
      (f_Loops_mark h37 t38 t40 t42).bind fun h43 =>
      (gR h43 8 l0 8).bind fun t44 =>
      (gR h43 8 l0 1).bind fun t45 =>
      (gR h43 8 l0 5).bind fun t46 =>
      (gR h43 8 l0 6).bind fun t47 =>
      (f_Merge_make h43 t44 t45 t46 t47).bind fun h48 =>
      (sI h48 8 l0 9 (1 : Int32)).bind fun h49 =>
      some h49
    ) else (
      some h
    )
  )
theorem o_MF_refresh {h : Hp} {l0 : Nat} {r : Hp} (hM : f_MF_refresh h l0 = some r) : isO h 8 l0 = true := by
  unfold f_MF_refresh at hM
  exact (ck_some hM).1
set_option maxHeartbeats 4000000 in
set_option maxRecDepth 100000 in
theorem t_MF_refresh {h : Hp} {l0 : Nat} {r : Hp} (C : Cx base D cI cZ b_MF_refresh 1 "MovedFolders" "refresh" none p s m args meth c) (hM : f_MF_refresh h l0 = some r) (H : Heap) (locs : List Loc) (ls : Array Slot) (hS : RS base D cI cZ s H locs h) (hl : lv_has ls 1 [(0, .ref (base + l0))]) : Wg l base D cI cZ 6 150 0 0 r none p e s m args below meth c H locs 0 0 (F0 m 0 ls []) := by
  have hx := C.1
  have hb := C.2.1
  unfold f_MF_refresh at hM
  replace hM := (ck_some hM).2
  refine lv_aload_n hx hb d_MF_refresh_0 rfl (lv_at hl 0 rfl) ?_
  obtain ⟨t1, et1, hM⟩ := bS hM
  refine r_getI C hS fl_MF_57 et1 d_MF_refresh_1 ?_
  refine lv_if_eq (tgt := 8) hx hb d_MF_refresh_4 (by decide) (fun c4_1 => ?_) (fun c4_1 => ?_)
  · rw [if_pos c4_1] at hM
    refine lv_aload_n hx hb d_MF_refresh_8 rfl (lv_at hl 0 rfl) ?_
    obtain ⟨t2, et2, hM⟩ := bS hM
    refine r_getR C hS fl_MF_36 et2 d_MF_refresh_9 ?_
    obtain ⟨t3, et3, hM⟩ := bS hM
    refine r_getR C hS fl_MF_137 et3 d_MF_refresh_12 ?_
    refine lv_aload_n hx hb d_MF_refresh_15 rfl (lv_at hl 0 rfl) ?_
    obtain ⟨t4, et4, hM⟩ := bS hM
    refine r_getR C hS fl_MF_19 et4 d_MF_refresh_16 ?_
    obtain ⟨t5, et5, hM⟩ := bS hM
    refine r_getR C hS fl_MF_112 et5 d_MF_refresh_19 ?_
    refine lv_aload_n hx hb d_MF_refresh_22 rfl (lv_at hl 0 rfl) ?_
    obtain ⟨t6, et6, hM⟩ := bS hM
    refine r_getR C hS fl_MF_19 et6 d_MF_refresh_23 ?_
    obtain ⟨t7, et7, hM⟩ := bS hM
    refine r_getR C hS fl_MF_189 et7 d_MF_refresh_26 ?_
    refine lv_aload_n hx hb d_MF_refresh_29 rfl (lv_at hl 0 rfl) ?_
    obtain ⟨t8, et8, hM⟩ := bS hM
    refine r_getR C hS fl_MF_19 et8 d_MF_refresh_30 ?_
    obtain ⟨t9, et9, hM⟩ := bS hM
    refine r_getI C hS fl_MF_120 et9 d_MF_refresh_33 ?_
    obtain ⟨h10, eh10, hM⟩ := bS hM
    refine r_callVv C hS cv_MF_213 (c_Pairs_find l base D cI cZ h t3 t5 t7 t9 eh10) (o_Pairs_find eh10) (rest := []) rfl hl.1 rfl (Nat.le_of_ble_eq_true rfl) ⟨(Nat.le_of_ble_eq_true rfl), (Nat.le_of_ble_eq_true rfl)⟩ ⟨(Nat.le_of_ble_eq_true rfl), (Nat.le_of_ble_eq_true rfl)⟩ d_MF_refresh_36 (fun H locs hS => ?_)
    refine lv_aload_n hx hb d_MF_refresh_39 rfl (lv_at hl 0 rfl) ?_
    obtain ⟨t11, et11, hM⟩ := bS hM
    refine r_getR C hS fl_MF_40 et11 d_MF_refresh_40 ?_
    obtain ⟨t12, et12, hM⟩ := bS hM
    refine r_getR C hS fl_MF_137 et12 d_MF_refresh_43 ?_
    refine lv_aload_n hx hb d_MF_refresh_46 rfl (lv_at hl 0 rfl) ?_
    obtain ⟨t13, et13, hM⟩ := bS hM
    refine r_getR C hS fl_MF_19 et13 d_MF_refresh_47 ?_
    obtain ⟨t14, et14, hM⟩ := bS hM
    refine r_getR C hS fl_MF_112 et14 d_MF_refresh_50 ?_
    refine lv_aload_n hx hb d_MF_refresh_53 rfl (lv_at hl 0 rfl) ?_
    obtain ⟨t15, et15, hM⟩ := bS hM
    refine r_getR C hS fl_MF_19 et15 d_MF_refresh_54 ?_
    obtain ⟨t16, et16, hM⟩ := bS hM
    refine r_getR C hS fl_MF_192 et16 d_MF_refresh_57 ?_
    refine lv_aload_n hx hb d_MF_refresh_60 rfl (lv_at hl 0 rfl) ?_
    obtain ⟨t17, et17, hM⟩ := bS hM
    refine r_getR C hS fl_MF_19 et17 d_MF_refresh_61 ?_
    obtain ⟨t18, et18, hM⟩ := bS hM
    refine r_getI C hS fl_MF_120 et18 d_MF_refresh_64 ?_
    obtain ⟨h19, eh19, hM⟩ := bS hM
    refine r_callVv C hS cv_MF_213 (c_Pairs_find l base D cI cZ h10 t12 t14 t16 t18 eh19) (o_Pairs_find eh19) (rest := []) rfl hl.1 rfl (Nat.le_of_ble_eq_true rfl) ⟨(Nat.le_of_ble_eq_true rfl), (Nat.le_of_ble_eq_true rfl)⟩ ⟨(Nat.le_of_ble_eq_true rfl), (Nat.le_of_ble_eq_true rfl)⟩ d_MF_refresh_67 (fun H locs hS => ?_)
    refine lv_aload_n hx hb d_MF_refresh_70 rfl (lv_at hl 0 rfl) ?_
    obtain ⟨t20, et20, hM⟩ := bS hM
    refine r_getR C hS fl_MF_36 et20 d_MF_refresh_71 ?_
    obtain ⟨t21, et21, hM⟩ := bS hM
    refine r_getR C hS fl_MF_161 et21 d_MF_refresh_74 ?_
    refine lv_aload_n hx hb d_MF_refresh_77 rfl (lv_at hl 0 rfl) ?_
    obtain ⟨t22, et22, hM⟩ := bS hM
    refine r_getR C hS fl_MF_19 et22 d_MF_refresh_78 ?_
    obtain ⟨t23, et23, hM⟩ := bS hM
    refine r_getR C hS fl_MF_112 et23 d_MF_refresh_81 ?_
    refine lv_aload_n hx hb d_MF_refresh_84 rfl (lv_at hl 0 rfl) ?_
    obtain ⟨t24, et24, hM⟩ := bS hM
    refine r_getR C hS fl_MF_19 et24 d_MF_refresh_85 ?_
    obtain ⟨t25, et25, hM⟩ := bS hM
    refine r_getR C hS fl_MF_189 et25 d_MF_refresh_88 ?_
    refine lv_aload_n hx hb d_MF_refresh_91 rfl (lv_at hl 0 rfl) ?_
    obtain ⟨t26, et26, hM⟩ := bS hM
    refine r_getR C hS fl_MF_36 et26 d_MF_refresh_92 ?_
    obtain ⟨t27, et27, hM⟩ := bS hM
    refine r_getR C hS fl_MF_137 et27 d_MF_refresh_95 ?_
    obtain ⟨h28, eh28, hM⟩ := bS hM
    refine r_callVv C hS cv_MF_217 (c_Moves_find l base D cI cZ h19 t21 t23 t25 t27 eh28) (o_Moves_find eh28) (rest := []) rfl hl.1 rfl (Nat.le_of_ble_eq_true rfl) ⟨(Nat.le_of_ble_eq_true rfl), (Nat.le_of_ble_eq_true rfl)⟩ ⟨(Nat.le_of_ble_eq_true rfl), (Nat.le_of_ble_eq_true rfl)⟩ d_MF_refresh_98 (fun H locs hS => ?_)
    refine lv_aload_n hx hb d_MF_refresh_101 rfl (lv_at hl 0 rfl) ?_
    obtain ⟨t29, et29, hM⟩ := bS hM
    refine r_getR C hS fl_MF_40 et29 d_MF_refresh_102 ?_
    obtain ⟨t30, et30, hM⟩ := bS hM
    refine r_getR C hS fl_MF_161 et30 d_MF_refresh_105 ?_
    refine lv_aload_n hx hb d_MF_refresh_108 rfl (lv_at hl 0 rfl) ?_
    obtain ⟨t31, et31, hM⟩ := bS hM
    refine r_getR C hS fl_MF_19 et31 d_MF_refresh_109 ?_
    obtain ⟨t32, et32, hM⟩ := bS hM
    refine r_getR C hS fl_MF_112 et32 d_MF_refresh_112 ?_
    refine lv_aload_n hx hb d_MF_refresh_115 rfl (lv_at hl 0 rfl) ?_
    obtain ⟨t33, et33, hM⟩ := bS hM
    refine r_getR C hS fl_MF_19 et33 d_MF_refresh_116 ?_
    obtain ⟨t34, et34, hM⟩ := bS hM
    refine r_getR C hS fl_MF_192 et34 d_MF_refresh_119 ?_
    refine lv_aload_n hx hb d_MF_refresh_122 rfl (lv_at hl 0 rfl) ?_
    obtain ⟨t35, et35, hM⟩ := bS hM
    refine r_getR C hS fl_MF_40 et35 d_MF_refresh_123 ?_
    obtain ⟨t36, et36, hM⟩ := bS hM
    refine r_getR C hS fl_MF_137 et36 d_MF_refresh_126 ?_
    obtain ⟨h37, eh37, hM⟩ := bS hM
    refine r_callVv C hS cv_MF_217 (c_Moves_find l base D cI cZ h28 t30 t32 t34 t36 eh37) (o_Moves_find eh37) (rest := []) rfl hl.1 rfl (Nat.le_of_ble_eq_true rfl) ⟨(Nat.le_of_ble_eq_true rfl), (Nat.le_of_ble_eq_true rfl)⟩ ⟨(Nat.le_of_ble_eq_true rfl), (Nat.le_of_ble_eq_true rfl)⟩ d_MF_refresh_129 (fun H locs hS => ?_)
    refine lv_aload_n hx hb d_MF_refresh_132 rfl (lv_at hl 0 rfl) ?_
    obtain ⟨t38, et38, hM⟩ := bS hM
    refine r_getR C hS fl_MF_46 et38 d_MF_refresh_133 ?_
    refine lv_aload_n hx hb d_MF_refresh_136 rfl (lv_at hl 0 rfl) ?_
    obtain ⟨t39, et39, hM⟩ := bS hM
    refine r_getR C hS fl_MF_36 et39 d_MF_refresh_137 ?_
    obtain ⟨t40, et40, hM⟩ := bS hM
    refine r_getR C hS fl_MF_161 et40 d_MF_refresh_140 ?_
    refine lv_aload_n hx hb d_MF_refresh_143 rfl (lv_at hl 0 rfl) ?_
    obtain ⟨t41, et41, hM⟩ := bS hM
    refine r_getR C hS fl_MF_40 et41 d_MF_refresh_144 ?_
    obtain ⟨t42, et42, hM⟩ := bS hM
    refine r_getR C hS fl_MF_161 et42 d_MF_refresh_147 ?_
    obtain ⟨h43, eh43, hM⟩ := bS hM
    refine r_callVv C hS cv_MF_220 (c_Loops_mark l base D cI cZ h37 t38 t40 t42 eh43) (o_Loops_mark eh43) (rest := []) rfl hl.1 rfl (Nat.le_of_ble_eq_true rfl) ⟨(Nat.le_of_ble_eq_true rfl), (Nat.le_of_ble_eq_true rfl)⟩ ⟨(Nat.le_of_ble_eq_true rfl), (Nat.le_of_ble_eq_true rfl)⟩ d_MF_refresh_150 (fun H locs hS => ?_)
    refine lv_aload_n hx hb d_MF_refresh_153 rfl (lv_at hl 0 rfl) ?_
    obtain ⟨t44, et44, hM⟩ := bS hM
    refine r_getR C hS fl_MF_53 et44 d_MF_refresh_154 ?_
    refine lv_aload_n hx hb d_MF_refresh_157 rfl (lv_at hl 0 rfl) ?_
    obtain ⟨t45, et45, hM⟩ := bS hM
    refine r_getR C hS fl_MF_19 et45 d_MF_refresh_158 ?_
    refine lv_aload_n hx hb d_MF_refresh_161 rfl (lv_at hl 0 rfl) ?_
    obtain ⟨t46, et46, hM⟩ := bS hM
    refine r_getR C hS fl_MF_36 et46 d_MF_refresh_162 ?_
    refine lv_aload_n hx hb d_MF_refresh_165 rfl (lv_at hl 0 rfl) ?_
    obtain ⟨t47, et47, hM⟩ := bS hM
    refine r_getR C hS fl_MF_40 et47 d_MF_refresh_166 ?_
    obtain ⟨h48, eh48, hM⟩ := bS hM
    refine r_callVv C hS cv_MF_224 (c_Merge_make l base D cI cZ h43 t44 t45 t46 t47 eh48) (o_Merge_make eh48) (rest := []) rfl hl.1 rfl (Nat.le_of_ble_eq_true rfl) ⟨(Nat.le_of_ble_eq_true rfl), (Nat.le_of_ble_eq_true rfl)⟩ ⟨(Nat.le_of_ble_eq_true rfl), (Nat.le_of_ble_eq_true rfl)⟩ d_MF_refresh_169 (fun H locs hS => ?_)
    refine lv_aload_n hx hb d_MF_refresh_172 rfl (lv_at hl 0 rfl) ?_
    refine lv_iconst (v := (1 : Int32)) hx hb d_MF_refresh_173 (by decide) ?_
    obtain ⟨h49, eh49, hM⟩ := bS hM
    refine r_putZ C hS fp_MF_57 eh49 rfl rfl d_MF_refresh_174 (fun H locs hS => ?_)
    obtain rfl := Option.some.inj hM
    exact r_vret C hS d_MF_refresh_177
  · rw [if_neg c4_1] at hM
    obtain rfl := Option.some.inj hM
    exact r_vret C hS d_MF_refresh_7
theorem c_MF_refresh (l : Launch) (base : Nat) (D : va_G) (cI cZ : ClassId) (h : Hp) (l0 : Nat) {r : Hp} (hM : f_MF_refresh h l0 = some r) : Ct l base D cI cZ y_MF_refresh b_MF_refresh 1 none 6 150 0 0 h [.ref (base + l0)] r none :=
  ct_of (by decide) (Nat.le_of_ble_eq_true rfl) (fun p e s m below meth c ls C hS hl => t_MF_refresh C hM _ _ _ hS hl)
theorem d_MF_sideOf_0 : decode b_MF_sideOf 0 = .ok (.iload_n 1, 1) := by decide +kernel
theorem d_MF_sideOf_1 : decode b_MF_sideOf 1 = .ok (.iconst 1, 1) := by decide +kernel
theorem d_MF_sideOf_2 : decode b_MF_sideOf 2 = .ok (.if_icmp .ne 10, 3) := by decide +kernel
theorem d_MF_sideOf_5 : decode b_MF_sideOf 5 = .ok (.aload_n 0, 1) := by decide +kernel
theorem d_MF_sideOf_6 : decode b_MF_sideOf 6 = .ok (.getfield 36, 3) := by decide +kernel
theorem d_MF_sideOf_9 : decode b_MF_sideOf 9 = .ok (.goto 7, 3) := by decide +kernel
theorem d_MF_sideOf_12 : decode b_MF_sideOf 12 = .ok (.aload_n 0, 1) := by decide +kernel
theorem d_MF_sideOf_13 : decode b_MF_sideOf 13 = .ok (.getfield 40, 3) := by decide +kernel
theorem d_MF_sideOf_16 : decode b_MF_sideOf 16 = .ok (.areturn, 1) := by decide +kernel
def f_MF_sideOf (h : Hp) (l0 : Nat) (l1 : Int32) : Option Nat :=
  ck h 8 l0 (
    (
      if l1 = (1 : Int32) then (
        (gR h 8 l0 5).bind fun t3 =>
        some t3
      ) else (
        (gR h 8 l0 6).bind fun t2 =>
        some t2
      )
    ).bind fun t1 =>
    some t1
  )
theorem o_MF_sideOf {h : Hp} {l0 : Nat} {l1 : Int32} {r : Nat} (hM : f_MF_sideOf h l0 l1 = some r) : isO h 8 l0 = true := by
  unfold f_MF_sideOf at hM
  exact (ck_some hM).1
set_option maxHeartbeats 4000000 in
set_option maxRecDepth 100000 in
theorem t_MF_sideOf {h : Hp} {l0 : Nat} {l1 : Int32} {r : Nat} (C : Cx base D cI cZ b_MF_sideOf 2 "MovedFolders" "sideOf" (some (.object "MovedFolders$Side")) p s m args meth c) (hM : f_MF_sideOf h l0 l1 = some r) (H : Heap) (locs : List Loc) (ls : Array Slot) (hS : RS base D cI cZ s H locs h) (hl : lv_has ls 2 [(0, .ref (base + l0)), (1, .int l1)]) : Wg l base D cI cZ 0 0 0 0 h (some (.ref (base + r))) p e s m args below meth c H locs 0 0 (F0 m 0 ls []) := by
  have hx := C.1
  have hb := C.2.1
  unfold f_MF_sideOf at hM
  replace hM := (ck_some hM).2
  refine lv_iload_n hx hb d_MF_sideOf_0 rfl (lv_at hl 1 rfl) ?_
  refine lv_iconst (v := (1 : Int32)) hx hb d_MF_sideOf_1 (by decide) ?_
  obtain ⟨t1, et1, hM⟩ := bS hM
  have kJ16_1 : ∀ (H : Heap) (locs : List Loc) (ls : Array Slot), RS base D cI cZ s H locs h → lv_has ls 2 [] → Wg l base D cI cZ 0 0 0 0 h (some (.ref (base + r))) p e s m args below meth c H locs 0 0 (F0 m 16 ls [.ref (base + t1)]) := by
    intro H locs ls hS hl
    obtain rfl := Option.some.inj hM
    exact r_aret C hS d_MF_sideOf_16
  refine lv_icmp_ne (tgt := 12) hx hb d_MF_sideOf_2 (by decide) (fun c2_2 => ?_) (fun c2_2 => ?_)
  · rw [if_neg c2_2] at et1
    refine lv_aload_n hx hb d_MF_sideOf_12 rfl (lv_at hl 0 rfl) ?_
    obtain ⟨t2, et2, et1⟩ := bS et1
    refine r_getR C hS fl_MF_40 et2 d_MF_sideOf_13 ?_
    obtain rfl := Option.some.inj et1
    exact kJ16_1 _ _ _ hS (lv_sub hl [] rfl)
  · rw [if_pos c2_2] at et1
    refine lv_aload_n hx hb d_MF_sideOf_5 rfl (lv_at hl 0 rfl) ?_
    obtain ⟨t3, et3, et1⟩ := bS et1
    refine r_getR C hS fl_MF_36 et3 d_MF_sideOf_6 ?_
    refine lv_goto (tgt := 16) hx hb d_MF_sideOf_9 (by decide) ?_
    obtain rfl := Option.some.inj et1
    exact kJ16_1 _ _ _ hS (lv_sub hl [] rfl)
theorem c_MF_sideOf (l : Launch) (base : Nat) (D : va_G) (cI cZ : ClassId) (h : Hp) (l0 : Nat) (l1 : Int32) {r : Nat} (hM : f_MF_sideOf h l0 l1 = some r) : Ct l base D cI cZ y_MF_sideOf b_MF_sideOf 2 (some (.object "MovedFolders$Side")) 0 0 0 0 h [.ref (base + l0), .int l1] h (some (.ref (base + r))) :=
  ct_of (by decide) (Nat.le_of_ble_eq_true rfl) (fun p e s m below meth c ls C hS hl => t_MF_sideOf C hM _ _ _ hS hl)
theorem d_MF_pair_0 : decode b_MF_pair 0 = .ok (.iload_n 1, 1) := by decide +kernel
theorem d_MF_pair_1 : decode b_MF_pair 1 = .ok (.invokestatic 109, 3) := by decide +kernel
theorem d_MF_pair_4 : decode b_MF_pair 4 = .ok (.ifCond .eq 12, 3) := by decide +kernel
theorem d_MF_pair_7 : decode b_MF_pair 7 = .ok (.aload_n 0, 1) := by decide +kernel
theorem d_MF_pair_8 : decode b_MF_pair 8 = .ok (.iconst 0, 1) := by decide +kernel
theorem d_MF_pair_9 : decode b_MF_pair 9 = .ok (.iload_n 2, 1) := by decide +kernel
theorem d_MF_pair_10 : decode b_MF_pair 10 = .ok (.invokevirtual 95, 3) := by decide +kernel
theorem d_MF_pair_13 : decode b_MF_pair 13 = .ok (.ifCond .ne 5, 3) := by decide +kernel
theorem d_MF_pair_16 : decode b_MF_pair 16 = .ok (.iconst (-1), 1) := by decide +kernel
theorem d_MF_pair_17 : decode b_MF_pair 17 = .ok (.ireturn, 1) := by decide +kernel
theorem d_MF_pair_18 : decode b_MF_pair 18 = .ok (.aload_n 0, 1) := by decide +kernel
theorem d_MF_pair_19 : decode b_MF_pair 19 = .ok (.invokevirtual 130, 3) := by decide +kernel
theorem d_MF_pair_22 : decode b_MF_pair 22 = .ok (.iload_n 3, 1) := by decide +kernel
theorem d_MF_pair_23 : decode b_MF_pair 23 = .ok (.lookupswitch 51 #[(0, 25), (1, 38)], 25) := by decide +kernel
theorem d_MF_pair_48 : decode b_MF_pair 48 = .ok (.aload_n 0, 1) := by decide +kernel
theorem d_MF_pair_49 : decode b_MF_pair 49 = .ok (.iload_n 1, 1) := by decide +kernel
theorem d_MF_pair_50 : decode b_MF_pair 50 = .ok (.invokevirtual 133, 3) := by decide +kernel
theorem d_MF_pair_53 : decode b_MF_pair 53 = .ok (.getfield 137, 3) := by decide +kernel
theorem d_MF_pair_56 : decode b_MF_pair 56 = .ok (.iload_n 2, 1) := by decide +kernel
theorem d_MF_pair_57 : decode b_MF_pair 57 = .ok (.invokevirtual 141, 3) := by decide +kernel
theorem d_MF_pair_60 : decode b_MF_pair 60 = .ok (.ireturn, 1) := by decide +kernel
theorem d_MF_pair_61 : decode b_MF_pair 61 = .ok (.aload_n 0, 1) := by decide +kernel
theorem d_MF_pair_62 : decode b_MF_pair 62 = .ok (.iload_n 1, 1) := by decide +kernel
theorem d_MF_pair_63 : decode b_MF_pair 63 = .ok (.invokevirtual 133, 3) := by decide +kernel
theorem d_MF_pair_66 : decode b_MF_pair 66 = .ok (.getfield 137, 3) := by decide +kernel
theorem d_MF_pair_69 : decode b_MF_pair 69 = .ok (.iload_n 2, 1) := by decide +kernel
theorem d_MF_pair_70 : decode b_MF_pair 70 = .ok (.invokevirtual 146, 3) := by decide +kernel
theorem d_MF_pair_73 : decode b_MF_pair 73 = .ok (.ireturn, 1) := by decide +kernel
theorem d_MF_pair_74 : decode b_MF_pair 74 = .ok (.bipush (-2), 2) := by decide +kernel
theorem d_MF_pair_76 : decode b_MF_pair 76 = .ok (.ireturn, 1) := by decide +kernel
def f_MF_pair (h : Hp) (l0 : Nat) (l1 : Int32) (l2 : Int32) (l3 : Int32) : Option (Int32 × Hp) :=
  ck h 8 l0 (
    (f_MF_isSide l1).bind fun t1 =>
    if t1 = (0 : Int32) then (
      some ((-1 : Int32), h)
    ) else (
      (f_MF_isFile h l0 (0 : Int32) l2).bind fun t2 =>
      if t2 = (0 : Int32) then (
        some ((-1 : Int32), h)
      ) else (
        (f_MF_refresh h l0).bind fun h3 =>
        if l3 = (0 : Int32) then (
          (f_MF_sideOf h3 l0 l1).bind fun t4 =>
          (gR h3 6 t4 0).bind fun t5 =>
          (f_Pairs_mateOf h3 t5 l2).bind fun t6 =>
          some (t6, h3)
        ) else (
          if l3 = (1 : Int32) then (
            (f_MF_sideOf h3 l0 l1).bind fun t7 =>
            (gR h3 6 t7 0).bind fun t8 =>
            (f_Pairs_wayOf h3 t8 l2).bind fun t9 =>
            some (t9, h3)
          ) else (
            some ((-2 : Int32), h3)
        ))
      )
    )
  )
theorem o_MF_pair {h : Hp} {l0 : Nat} {l1 : Int32} {l2 : Int32} {l3 : Int32} {r : (Int32 × Hp)} (hM : f_MF_pair h l0 l1 l2 l3 = some r) : isO h 8 l0 = true := by
  unfold f_MF_pair at hM
  exact (ck_some hM).1
set_option maxHeartbeats 4000000 in
set_option maxRecDepth 100000 in
theorem t_MF_pair {h : Hp} {l0 : Nat} {l1 : Int32} {l2 : Int32} {l3 : Int32} {r : (Int32 × Hp)} (C : Cx base D cI cZ b_MF_pair 4 "MovedFolders" "pair" (some .int) p s m args meth c) (hM : f_MF_pair h l0 l1 l2 l3 = some r) (H : Heap) (locs : List Loc) (ls : Array Slot) (hS : RS base D cI cZ s H locs h) (hl : lv_has ls 4 [(0, .ref (base + l0)), (1, .int l1), (2, .int l2), (3, .int l3)]) : Wg l base D cI cZ 7 170 0 0 r.2 (some (.int r.1)) p e s m args below meth c H locs 0 0 (F0 m 0 ls []) := by
  have hx := C.1
  have hb := C.2.1
  unfold f_MF_pair at hM
  replace hM := (ck_some hM).2
  refine lv_iload_n hx hb d_MF_pair_0 rfl (lv_at hl 1 rfl) ?_
  obtain ⟨t1, et1, hM⟩ := bS hM
  refine r_callSi (x := t1) C hS cs_MF_109 (c_MF_isSide l base D cI cZ h l1 et1) (rest := []) rfl hl.1 rfl (Nat.le_of_ble_eq_true rfl) ⟨(Nat.le_of_ble_eq_true rfl), (Nat.le_of_ble_eq_true rfl)⟩ ⟨(Nat.le_of_ble_eq_true rfl), (Nat.le_of_ble_eq_true rfl)⟩ d_MF_pair_1 (fun H locs hS => ?_)
  refine lv_if_eq (tgt := 16) hx hb d_MF_pair_4 (by decide) (fun c4_1 => ?_) (fun c4_1 => ?_)
  · rw [if_pos c4_1] at hM
    refine lv_iconst (v := (-1 : Int32)) hx hb d_MF_pair_16 (by decide) ?_
    obtain rfl := Option.some.inj hM
    exact r_iret C hS d_MF_pair_17
  · rw [if_neg c4_1] at hM
    refine lv_aload_n hx hb d_MF_pair_7 rfl (lv_at hl 0 rfl) ?_
    refine lv_iconst (v := (0 : Int32)) hx hb d_MF_pair_8 (by decide) ?_
    refine lv_iload_n hx hb d_MF_pair_9 rfl (lv_at hl 2 rfl) ?_
    obtain ⟨t2, et2, hM⟩ := bS hM
    refine r_callVi (x := t2) C hS cv_MF_95 (c_MF_isFile l base D cI cZ h l0 (0 : Int32) l2 et2) (o_MF_isFile et2) (rest := []) rfl hl.1 rfl (Nat.le_of_ble_eq_true rfl) ⟨(Nat.le_of_ble_eq_true rfl), (Nat.le_of_ble_eq_true rfl)⟩ ⟨(Nat.le_of_ble_eq_true rfl), (Nat.le_of_ble_eq_true rfl)⟩ d_MF_pair_10 (fun H locs hS => ?_)
    refine lv_if_ne (tgt := 18) hx hb d_MF_pair_13 (by decide) (fun c13_2 => ?_) (fun c13_2 => ?_)
    · rw [if_neg c13_2] at hM
      refine lv_aload_n hx hb d_MF_pair_18 rfl (lv_at hl 0 rfl) ?_
      obtain ⟨h3, eh3, hM⟩ := bS hM
      refine r_callVv C hS cv_MF_130 (c_MF_refresh l base D cI cZ h l0 eh3) (o_MF_refresh eh3) (rest := []) rfl hl.1 rfl (Nat.le_of_ble_eq_true rfl) ⟨(Nat.le_of_ble_eq_true rfl), (Nat.le_of_ble_eq_true rfl)⟩ ⟨(Nat.le_of_ble_eq_true rfl), (Nat.le_of_ble_eq_true rfl)⟩ d_MF_pair_19 (fun H locs hS => ?_)
      refine lv_iload_n hx hb d_MF_pair_22 rfl (lv_at hl 3 rfl) ?_
      by_cases c23_3 : l3 = (0 : Int32)
      · rw [if_pos c23_3] at hM
        refine lv_lookup (off := 25) (tgt := 48) hx hb d_MF_pair_23 (by decide) (by rw [c23_3]; rfl) (by decide) ?_
        refine lv_aload_n hx hb d_MF_pair_48 rfl (lv_at hl 0 rfl) ?_
        refine lv_iload_n hx hb d_MF_pair_49 rfl (lv_at hl 1 rfl) ?_
        obtain ⟨t4, et4, hM⟩ := bS hM
        refine r_callVr (x := t4) C hS cv_MF_133 (c_MF_sideOf l base D cI cZ h3 l0 l1 et4) (o_MF_sideOf et4) (rest := []) rfl hl.1 rfl (Nat.le_of_ble_eq_true rfl) ⟨(Nat.le_of_ble_eq_true rfl), (Nat.le_of_ble_eq_true rfl)⟩ ⟨(Nat.le_of_ble_eq_true rfl), (Nat.le_of_ble_eq_true rfl)⟩ d_MF_pair_50 (fun H locs hS => ?_)
        obtain ⟨t5, et5, hM⟩ := bS hM
        refine r_getR C hS fl_MF_137 et5 d_MF_pair_53 ?_
        refine lv_iload_n hx hb d_MF_pair_56 rfl (lv_at hl 2 rfl) ?_
        obtain ⟨t6, et6, hM⟩ := bS hM
        refine r_callVi (x := t6) C hS cv_MF_141 (c_Pairs_mateOf l base D cI cZ h3 t5 l2 et6) (o_Pairs_mateOf et6) (rest := []) rfl hl.1 rfl (Nat.le_of_ble_eq_true rfl) ⟨(Nat.le_of_ble_eq_true rfl), (Nat.le_of_ble_eq_true rfl)⟩ ⟨(Nat.le_of_ble_eq_true rfl), (Nat.le_of_ble_eq_true rfl)⟩ d_MF_pair_57 (fun H locs hS => ?_)
        obtain rfl := Option.some.inj hM
        exact r_iret C hS d_MF_pair_60
      rw [if_neg c23_3] at hM
      by_cases c23_4 : l3 = (1 : Int32)
      · rw [if_pos c23_4] at hM
        refine lv_lookup (off := 38) (tgt := 61) hx hb d_MF_pair_23 (by decide) (by rw [c23_4]; rfl) (by decide) ?_
        refine lv_aload_n hx hb d_MF_pair_61 rfl (lv_at hl 0 rfl) ?_
        refine lv_iload_n hx hb d_MF_pair_62 rfl (lv_at hl 1 rfl) ?_
        obtain ⟨t7, et7, hM⟩ := bS hM
        refine r_callVr (x := t7) C hS cv_MF_133 (c_MF_sideOf l base D cI cZ h3 l0 l1 et7) (o_MF_sideOf et7) (rest := []) rfl hl.1 rfl (Nat.le_of_ble_eq_true rfl) ⟨(Nat.le_of_ble_eq_true rfl), (Nat.le_of_ble_eq_true rfl)⟩ ⟨(Nat.le_of_ble_eq_true rfl), (Nat.le_of_ble_eq_true rfl)⟩ d_MF_pair_63 (fun H locs hS => ?_)
        obtain ⟨t8, et8, hM⟩ := bS hM
        refine r_getR C hS fl_MF_137 et8 d_MF_pair_66 ?_
        refine lv_iload_n hx hb d_MF_pair_69 rfl (lv_at hl 2 rfl) ?_
        obtain ⟨t9, et9, hM⟩ := bS hM
        refine r_callVi (x := t9) C hS cv_MF_146 (c_Pairs_wayOf l base D cI cZ h3 t8 l2 et9) (o_Pairs_wayOf et9) (rest := []) rfl hl.1 rfl (Nat.le_of_ble_eq_true rfl) ⟨(Nat.le_of_ble_eq_true rfl), (Nat.le_of_ble_eq_true rfl)⟩ ⟨(Nat.le_of_ble_eq_true rfl), (Nat.le_of_ble_eq_true rfl)⟩ d_MF_pair_70 (fun H locs hS => ?_)
        obtain rfl := Option.some.inj hM
        exact r_iret C hS d_MF_pair_73
      rw [if_neg c23_4] at hM
      refine lv_lookup (off := 51) (tgt := 74) hx hb d_MF_pair_23 (by decide) (by show Op.lookupswitch.offset [(0, 25), (1, 38)] _ _ = _; rw [lv_osw (a := 0) c23_3 rfl, lv_osw (a := 1) c23_4 rfl]; rfl) (by decide) ?_
      refine lv_bipush (v := (-2 : Int32)) hx hb d_MF_pair_74 (by decide) ?_
      obtain rfl := Option.some.inj hM
      exact r_iret C hS d_MF_pair_76
    · rw [if_pos c13_2] at hM
      refine lv_iconst (v := (-1 : Int32)) hx hb d_MF_pair_16 (by decide) ?_
      obtain rfl := Option.some.inj hM
      exact r_iret C hS d_MF_pair_17
theorem c_MF_pair (l : Launch) (base : Nat) (D : va_G) (cI cZ : ClassId) (h : Hp) (l0 : Nat) (l1 : Int32) (l2 : Int32) (l3 : Int32) {r : (Int32 × Hp)} (hM : f_MF_pair h l0 l1 l2 l3 = some r) : Ct l base D cI cZ y_MF_pair b_MF_pair 4 (some .int) 7 170 0 0 h [.ref (base + l0), .int l1, .int l2, .int l3] r.2 (some (.int r.1)) :=
  ct_of (by decide) (Nat.le_of_ble_eq_true rfl) (fun p e s m below meth c ls C hS hl => t_MF_pair C hM _ _ _ hS hl)
theorem d_MF_origin_0 : decode b_MF_origin 0 = .ok (.iload_n 1, 1) := by decide +kernel
theorem d_MF_origin_1 : decode b_MF_origin 1 = .ok (.invokestatic 109, 3) := by decide +kernel
theorem d_MF_origin_4 : decode b_MF_origin 4 = .ok (.ifCond .eq 12, 3) := by decide +kernel
theorem d_MF_origin_7 : decode b_MF_origin 7 = .ok (.aload_n 0, 1) := by decide +kernel
theorem d_MF_origin_8 : decode b_MF_origin 8 = .ok (.iload_n 1, 1) := by decide +kernel
theorem d_MF_origin_9 : decode b_MF_origin 9 = .ok (.iload_n 2, 1) := by decide +kernel
theorem d_MF_origin_10 : decode b_MF_origin 10 = .ok (.invokevirtual 95, 3) := by decide +kernel
theorem d_MF_origin_13 : decode b_MF_origin 13 = .ok (.ifCond .ne 5, 3) := by decide +kernel
theorem d_MF_origin_16 : decode b_MF_origin 16 = .ok (.iconst (-1), 1) := by decide +kernel
theorem d_MF_origin_17 : decode b_MF_origin 17 = .ok (.ireturn, 1) := by decide +kernel
theorem d_MF_origin_18 : decode b_MF_origin 18 = .ok (.aload_n 0, 1) := by decide +kernel
theorem d_MF_origin_19 : decode b_MF_origin 19 = .ok (.invokevirtual 130, 3) := by decide +kernel
theorem d_MF_origin_22 : decode b_MF_origin 22 = .ok (.aload_n 0, 1) := by decide +kernel
theorem d_MF_origin_23 : decode b_MF_origin 23 = .ok (.iload_n 1, 1) := by decide +kernel
theorem d_MF_origin_24 : decode b_MF_origin 24 = .ok (.invokevirtual 133, 3) := by decide +kernel
theorem d_MF_origin_27 : decode b_MF_origin 27 = .ok (.getfield 137, 3) := by decide +kernel
theorem d_MF_origin_30 : decode b_MF_origin 30 = .ok (.iload_n 2, 1) := by decide +kernel
theorem d_MF_origin_31 : decode b_MF_origin 31 = .ok (.invokevirtual 149, 3) := by decide +kernel
theorem d_MF_origin_34 : decode b_MF_origin 34 = .ok (.ireturn, 1) := by decide +kernel
def f_MF_origin (h : Hp) (l0 : Nat) (l1 : Int32) (l2 : Int32) : Option (Int32 × Hp) :=
  ck h 8 l0 (
    (f_MF_isSide l1).bind fun t1 =>
    if t1 = (0 : Int32) then (
      some ((-1 : Int32), h)
    ) else (
      (f_MF_isFile h l0 l1 l2).bind fun t2 =>
      if t2 = (0 : Int32) then (
        some ((-1 : Int32), h)
      ) else (
        (f_MF_refresh h l0).bind fun h3 =>
        (f_MF_sideOf h3 l0 l1).bind fun t4 =>
        (gR h3 6 t4 0).bind fun t5 =>
        (f_Pairs_sourceOf h3 t5 l2).bind fun t6 =>
        some (t6, h3)
      )
    )
  )
theorem o_MF_origin {h : Hp} {l0 : Nat} {l1 : Int32} {l2 : Int32} {r : (Int32 × Hp)} (hM : f_MF_origin h l0 l1 l2 = some r) : isO h 8 l0 = true := by
  unfold f_MF_origin at hM
  exact (ck_some hM).1
set_option maxHeartbeats 4000000 in
set_option maxRecDepth 100000 in
theorem t_MF_origin {h : Hp} {l0 : Nat} {l1 : Int32} {l2 : Int32} {r : (Int32 × Hp)} (C : Cx base D cI cZ b_MF_origin 3 "MovedFolders" "origin" (some .int) p s m args meth c) (hM : f_MF_origin h l0 l1 l2 = some r) (H : Heap) (locs : List Loc) (ls : Array Slot) (hS : RS base D cI cZ s H locs h) (hl : lv_has ls 3 [(0, .ref (base + l0)), (1, .int l1), (2, .int l2)]) : Wg l base D cI cZ 7 170 0 0 r.2 (some (.int r.1)) p e s m args below meth c H locs 0 0 (F0 m 0 ls []) := by
  have hx := C.1
  have hb := C.2.1
  unfold f_MF_origin at hM
  replace hM := (ck_some hM).2
  refine lv_iload_n hx hb d_MF_origin_0 rfl (lv_at hl 1 rfl) ?_
  obtain ⟨t1, et1, hM⟩ := bS hM
  refine r_callSi (x := t1) C hS cs_MF_109 (c_MF_isSide l base D cI cZ h l1 et1) (rest := []) rfl hl.1 rfl (Nat.le_of_ble_eq_true rfl) ⟨(Nat.le_of_ble_eq_true rfl), (Nat.le_of_ble_eq_true rfl)⟩ ⟨(Nat.le_of_ble_eq_true rfl), (Nat.le_of_ble_eq_true rfl)⟩ d_MF_origin_1 (fun H locs hS => ?_)
  refine lv_if_eq (tgt := 16) hx hb d_MF_origin_4 (by decide) (fun c4_1 => ?_) (fun c4_1 => ?_)
  · rw [if_pos c4_1] at hM
    refine lv_iconst (v := (-1 : Int32)) hx hb d_MF_origin_16 (by decide) ?_
    obtain rfl := Option.some.inj hM
    exact r_iret C hS d_MF_origin_17
  · rw [if_neg c4_1] at hM
    refine lv_aload_n hx hb d_MF_origin_7 rfl (lv_at hl 0 rfl) ?_
    refine lv_iload_n hx hb d_MF_origin_8 rfl (lv_at hl 1 rfl) ?_
    refine lv_iload_n hx hb d_MF_origin_9 rfl (lv_at hl 2 rfl) ?_
    obtain ⟨t2, et2, hM⟩ := bS hM
    refine r_callVi (x := t2) C hS cv_MF_95 (c_MF_isFile l base D cI cZ h l0 l1 l2 et2) (o_MF_isFile et2) (rest := []) rfl hl.1 rfl (Nat.le_of_ble_eq_true rfl) ⟨(Nat.le_of_ble_eq_true rfl), (Nat.le_of_ble_eq_true rfl)⟩ ⟨(Nat.le_of_ble_eq_true rfl), (Nat.le_of_ble_eq_true rfl)⟩ d_MF_origin_10 (fun H locs hS => ?_)
    refine lv_if_ne (tgt := 18) hx hb d_MF_origin_13 (by decide) (fun c13_2 => ?_) (fun c13_2 => ?_)
    · rw [if_neg c13_2] at hM
      refine lv_aload_n hx hb d_MF_origin_18 rfl (lv_at hl 0 rfl) ?_
      obtain ⟨h3, eh3, hM⟩ := bS hM
      refine r_callVv C hS cv_MF_130 (c_MF_refresh l base D cI cZ h l0 eh3) (o_MF_refresh eh3) (rest := []) rfl hl.1 rfl (Nat.le_of_ble_eq_true rfl) ⟨(Nat.le_of_ble_eq_true rfl), (Nat.le_of_ble_eq_true rfl)⟩ ⟨(Nat.le_of_ble_eq_true rfl), (Nat.le_of_ble_eq_true rfl)⟩ d_MF_origin_19 (fun H locs hS => ?_)
      refine lv_aload_n hx hb d_MF_origin_22 rfl (lv_at hl 0 rfl) ?_
      refine lv_iload_n hx hb d_MF_origin_23 rfl (lv_at hl 1 rfl) ?_
      obtain ⟨t4, et4, hM⟩ := bS hM
      refine r_callVr (x := t4) C hS cv_MF_133 (c_MF_sideOf l base D cI cZ h3 l0 l1 et4) (o_MF_sideOf et4) (rest := []) rfl hl.1 rfl (Nat.le_of_ble_eq_true rfl) ⟨(Nat.le_of_ble_eq_true rfl), (Nat.le_of_ble_eq_true rfl)⟩ ⟨(Nat.le_of_ble_eq_true rfl), (Nat.le_of_ble_eq_true rfl)⟩ d_MF_origin_24 (fun H locs hS => ?_)
      obtain ⟨t5, et5, hM⟩ := bS hM
      refine r_getR C hS fl_MF_137 et5 d_MF_origin_27 ?_
      refine lv_iload_n hx hb d_MF_origin_30 rfl (lv_at hl 2 rfl) ?_
      obtain ⟨t6, et6, hM⟩ := bS hM
      refine r_callVi (x := t6) C hS cv_MF_149 (c_Pairs_sourceOf l base D cI cZ h3 t5 l2 et6) (o_Pairs_sourceOf et6) (rest := []) rfl hl.1 rfl (Nat.le_of_ble_eq_true rfl) ⟨(Nat.le_of_ble_eq_true rfl), (Nat.le_of_ble_eq_true rfl)⟩ ⟨(Nat.le_of_ble_eq_true rfl), (Nat.le_of_ble_eq_true rfl)⟩ d_MF_origin_31 (fun H locs hS => ?_)
      obtain rfl := Option.some.inj hM
      exact r_iret C hS d_MF_origin_34
    · rw [if_pos c13_2] at hM
      refine lv_iconst (v := (-1 : Int32)) hx hb d_MF_origin_16 (by decide) ?_
      obtain rfl := Option.some.inj hM
      exact r_iret C hS d_MF_origin_17
theorem c_MF_origin (l : Launch) (base : Nat) (D : va_G) (cI cZ : ClassId) (h : Hp) (l0 : Nat) (l1 : Int32) (l2 : Int32) {r : (Int32 × Hp)} (hM : f_MF_origin h l0 l1 l2 = some r) : Ct l base D cI cZ y_MF_origin b_MF_origin 3 (some .int) 7 170 0 0 h [.ref (base + l0), .int l1, .int l2] r.2 (some (.int r.1)) :=
  ct_of (by decide) (Nat.le_of_ble_eq_true rfl) (fun p e s m below meth c ls C hS hl => t_MF_origin C hM _ _ _ hS hl)
theorem d_MF_votes_0 : decode b_MF_votes 0 = .ok (.iload_n 1, 1) := by decide +kernel
theorem d_MF_votes_1 : decode b_MF_votes 1 = .ok (.invokestatic 109, 3) := by decide +kernel
theorem d_MF_votes_4 : decode b_MF_votes 4 = .ok (.ifCond .ne 5, 3) := by decide +kernel
theorem d_MF_votes_7 : decode b_MF_votes 7 = .ok (.iconst (-1), 1) := by decide +kernel
theorem d_MF_votes_8 : decode b_MF_votes 8 = .ok (.ireturn, 1) := by decide +kernel
theorem d_MF_votes_9 : decode b_MF_votes 9 = .ok (.iload_n 2, 1) := by decide +kernel
theorem d_MF_votes_10 : decode b_MF_votes 10 = .ok (.invokestatic 152, 3) := by decide +kernel
theorem d_MF_votes_13 : decode b_MF_votes 13 = .ok (.ifCond .eq 15, 3) := by decide +kernel
theorem d_MF_votes_16 : decode b_MF_votes 16 = .ok (.iload_n 3, 1) := by decide +kernel
theorem d_MF_votes_17 : decode b_MF_votes 17 = .ok (.invokestatic 152, 3) := by decide +kernel
theorem d_MF_votes_20 : decode b_MF_votes 20 = .ok (.ifCond .eq 8, 3) := by decide +kernel
theorem d_MF_votes_23 : decode b_MF_votes 23 = .ok (.iload_n 2, 1) := by decide +kernel
theorem d_MF_votes_24 : decode b_MF_votes 24 = .ok (.iload_n 3, 1) := by decide +kernel
theorem d_MF_votes_25 : decode b_MF_votes 25 = .ok (.if_icmp .ne 6, 3) := by decide +kernel
theorem d_MF_votes_28 : decode b_MF_votes 28 = .ok (.bipush (-2), 2) := by decide +kernel
theorem d_MF_votes_30 : decode b_MF_votes 30 = .ok (.ireturn, 1) := by decide +kernel
theorem d_MF_votes_31 : decode b_MF_votes 31 = .ok (.aload_n 0, 1) := by decide +kernel
theorem d_MF_votes_32 : decode b_MF_votes 32 = .ok (.invokevirtual 130, 3) := by decide +kernel
theorem d_MF_votes_35 : decode b_MF_votes 35 = .ok (.aload_n 0, 1) := by decide +kernel
theorem d_MF_votes_36 : decode b_MF_votes 36 = .ok (.iload_n 1, 1) := by decide +kernel
theorem d_MF_votes_37 : decode b_MF_votes 37 = .ok (.invokevirtual 133, 3) := by decide +kernel
theorem d_MF_votes_40 : decode b_MF_votes 40 = .ok (.getfield 137, 3) := by decide +kernel
theorem d_MF_votes_43 : decode b_MF_votes 43 = .ok (.aload_n 0, 1) := by decide +kernel
theorem d_MF_votes_44 : decode b_MF_votes 44 = .ok (.getfield 19, 3) := by decide +kernel
theorem d_MF_votes_47 : decode b_MF_votes 47 = .ok (.getfield 112, 3) := by decide +kernel
theorem d_MF_votes_50 : decode b_MF_votes 50 = .ok (.aload_n 0, 1) := by decide +kernel
theorem d_MF_votes_51 : decode b_MF_votes 51 = .ok (.iload_n 1, 1) := by decide +kernel
theorem d_MF_votes_52 : decode b_MF_votes 52 = .ok (.invokevirtual 78, 3) := by decide +kernel
theorem d_MF_votes_55 : decode b_MF_votes 55 = .ok (.iload_n 2, 1) := by decide +kernel
theorem d_MF_votes_56 : decode b_MF_votes 56 = .ok (.iload_n 3, 1) := by decide +kernel
theorem d_MF_votes_57 : decode b_MF_votes 57 = .ok (.invokevirtual 157, 3) := by decide +kernel
theorem d_MF_votes_60 : decode b_MF_votes 60 = .ok (.ireturn, 1) := by decide +kernel
def f_MF_votes (h : Hp) (l0 : Nat) (l1 : Int32) (l2 : Int32) (l3 : Int32) : Option (Int32 × Hp) :=
  ck h 8 l0 (
    (f_MF_isSide l1).bind fun t1 =>
    if t1 = (0 : Int32) then (
      some ((-1 : Int32), h)
    ) else (
      (f_Letters_isFolder l2).bind fun t2 =>
      if t2 = (0 : Int32) then (
        some ((-2 : Int32), h)
      ) else (
        (f_Letters_isFolder l3).bind fun t3 =>
        if t3 = (0 : Int32) then (
          some ((-2 : Int32), h)
        ) else (
          if l2 = l3 then (
            some ((-2 : Int32), h)
          ) else (
            (f_MF_refresh h l0).bind fun h4 =>
            (f_MF_sideOf h4 l0 l1).bind fun t5 =>
            (gR h4 6 t5 0).bind fun t6 =>
            (gR h4 8 l0 1).bind fun t7 =>
            (gR h4 0 t7 0).bind fun t8 =>
            (f_MF_treeOf h4 l0 l1).bind fun t9 =>
            (f_Pairs_countWent h4 t6 t8 t9 l2 l3).bind fun t10 =>
            some (t10, h4)
          )
        )
      )
    )
  )
theorem o_MF_votes {h : Hp} {l0 : Nat} {l1 : Int32} {l2 : Int32} {l3 : Int32} {r : (Int32 × Hp)} (hM : f_MF_votes h l0 l1 l2 l3 = some r) : isO h 8 l0 = true := by
  unfold f_MF_votes at hM
  exact (ck_some hM).1
set_option maxHeartbeats 4000000 in
set_option maxRecDepth 100000 in
theorem t_MF_votes {h : Hp} {l0 : Nat} {l1 : Int32} {l2 : Int32} {l3 : Int32} {r : (Int32 × Hp)} (C : Cx base D cI cZ b_MF_votes 4 "MovedFolders" "votes" (some .int) p s m args meth c) (hM : f_MF_votes h l0 l1 l2 l3 = some r) (H : Heap) (locs : List Loc) (ls : Array Slot) (hS : RS base D cI cZ s H locs h) (hl : lv_has ls 4 [(0, .ref (base + l0)), (1, .int l1), (2, .int l2), (3, .int l3)]) : Wg l base D cI cZ 7 170 0 0 r.2 (some (.int r.1)) p e s m args below meth c H locs 0 0 (F0 m 0 ls []) := by
  have hx := C.1
  have hb := C.2.1
  unfold f_MF_votes at hM
  replace hM := (ck_some hM).2
  refine lv_iload_n hx hb d_MF_votes_0 rfl (lv_at hl 1 rfl) ?_
  obtain ⟨t1, et1, hM⟩ := bS hM
  refine r_callSi (x := t1) C hS cs_MF_109 (c_MF_isSide l base D cI cZ h l1 et1) (rest := []) rfl hl.1 rfl (Nat.le_of_ble_eq_true rfl) ⟨(Nat.le_of_ble_eq_true rfl), (Nat.le_of_ble_eq_true rfl)⟩ ⟨(Nat.le_of_ble_eq_true rfl), (Nat.le_of_ble_eq_true rfl)⟩ d_MF_votes_1 (fun H locs hS => ?_)
  refine lv_if_ne (tgt := 9) hx hb d_MF_votes_4 (by decide) (fun c4_1 => ?_) (fun c4_1 => ?_)
  · rw [if_neg c4_1] at hM
    refine lv_iload_n hx hb d_MF_votes_9 rfl (lv_at hl 2 rfl) ?_
    obtain ⟨t2, et2, hM⟩ := bS hM
    refine r_callSi (x := t2) C hS cs_MF_152 (c_Letters_isFolder l base D cI cZ h l2 et2) (rest := []) rfl hl.1 rfl (Nat.le_of_ble_eq_true rfl) ⟨(Nat.le_of_ble_eq_true rfl), (Nat.le_of_ble_eq_true rfl)⟩ ⟨(Nat.le_of_ble_eq_true rfl), (Nat.le_of_ble_eq_true rfl)⟩ d_MF_votes_10 (fun H locs hS => ?_)
    refine lv_if_eq (tgt := 28) hx hb d_MF_votes_13 (by decide) (fun c13_2 => ?_) (fun c13_2 => ?_)
    · rw [if_pos c13_2] at hM
      refine lv_bipush (v := (-2 : Int32)) hx hb d_MF_votes_28 (by decide) ?_
      obtain rfl := Option.some.inj hM
      exact r_iret C hS d_MF_votes_30
    · rw [if_neg c13_2] at hM
      refine lv_iload_n hx hb d_MF_votes_16 rfl (lv_at hl 3 rfl) ?_
      obtain ⟨t3, et3, hM⟩ := bS hM
      refine r_callSi (x := t3) C hS cs_MF_152 (c_Letters_isFolder l base D cI cZ h l3 et3) (rest := []) rfl hl.1 rfl (Nat.le_of_ble_eq_true rfl) ⟨(Nat.le_of_ble_eq_true rfl), (Nat.le_of_ble_eq_true rfl)⟩ ⟨(Nat.le_of_ble_eq_true rfl), (Nat.le_of_ble_eq_true rfl)⟩ d_MF_votes_17 (fun H locs hS => ?_)
      refine lv_if_eq (tgt := 28) hx hb d_MF_votes_20 (by decide) (fun c20_3 => ?_) (fun c20_3 => ?_)
      · rw [if_pos c20_3] at hM
        refine lv_bipush (v := (-2 : Int32)) hx hb d_MF_votes_28 (by decide) ?_
        obtain rfl := Option.some.inj hM
        exact r_iret C hS d_MF_votes_30
      · rw [if_neg c20_3] at hM
        refine lv_iload_n hx hb d_MF_votes_23 rfl (lv_at hl 2 rfl) ?_
        refine lv_iload_n hx hb d_MF_votes_24 rfl (lv_at hl 3 rfl) ?_
        refine lv_icmp_ne (tgt := 31) hx hb d_MF_votes_25 (by decide) (fun c25_4 => ?_) (fun c25_4 => ?_)
        · rw [if_neg c25_4] at hM
          refine lv_aload_n hx hb d_MF_votes_31 rfl (lv_at hl 0 rfl) ?_
          obtain ⟨h4, eh4, hM⟩ := bS hM
          refine r_callVv C hS cv_MF_130 (c_MF_refresh l base D cI cZ h l0 eh4) (o_MF_refresh eh4) (rest := []) rfl hl.1 rfl (Nat.le_of_ble_eq_true rfl) ⟨(Nat.le_of_ble_eq_true rfl), (Nat.le_of_ble_eq_true rfl)⟩ ⟨(Nat.le_of_ble_eq_true rfl), (Nat.le_of_ble_eq_true rfl)⟩ d_MF_votes_32 (fun H locs hS => ?_)
          refine lv_aload_n hx hb d_MF_votes_35 rfl (lv_at hl 0 rfl) ?_
          refine lv_iload_n hx hb d_MF_votes_36 rfl (lv_at hl 1 rfl) ?_
          obtain ⟨t5, et5, hM⟩ := bS hM
          refine r_callVr (x := t5) C hS cv_MF_133 (c_MF_sideOf l base D cI cZ h4 l0 l1 et5) (o_MF_sideOf et5) (rest := []) rfl hl.1 rfl (Nat.le_of_ble_eq_true rfl) ⟨(Nat.le_of_ble_eq_true rfl), (Nat.le_of_ble_eq_true rfl)⟩ ⟨(Nat.le_of_ble_eq_true rfl), (Nat.le_of_ble_eq_true rfl)⟩ d_MF_votes_37 (fun H locs hS => ?_)
          obtain ⟨t6, et6, hM⟩ := bS hM
          refine r_getR C hS fl_MF_137 et6 d_MF_votes_40 ?_
          refine lv_aload_n hx hb d_MF_votes_43 rfl (lv_at hl 0 rfl) ?_
          obtain ⟨t7, et7, hM⟩ := bS hM
          refine r_getR C hS fl_MF_19 et7 d_MF_votes_44 ?_
          obtain ⟨t8, et8, hM⟩ := bS hM
          refine r_getR C hS fl_MF_112 et8 d_MF_votes_47 ?_
          refine lv_aload_n hx hb d_MF_votes_50 rfl (lv_at hl 0 rfl) ?_
          refine lv_iload_n hx hb d_MF_votes_51 rfl (lv_at hl 1 rfl) ?_
          obtain ⟨t9, et9, hM⟩ := bS hM
          refine r_callVr (x := t9) C hS cv_MF_78 (c_MF_treeOf l base D cI cZ h4 l0 l1 et9) (o_MF_treeOf et9) (rest := [.ref (base + t8), .ref (base + t6)]) rfl hl.1 rfl (Nat.le_of_ble_eq_true rfl) ⟨(Nat.le_of_ble_eq_true rfl), (Nat.le_of_ble_eq_true rfl)⟩ ⟨(Nat.le_of_ble_eq_true rfl), (Nat.le_of_ble_eq_true rfl)⟩ d_MF_votes_52 (fun H locs hS => ?_)
          refine lv_iload_n hx hb d_MF_votes_55 rfl (lv_at hl 2 rfl) ?_
          refine lv_iload_n hx hb d_MF_votes_56 rfl (lv_at hl 3 rfl) ?_
          obtain ⟨t10, et10, hM⟩ := bS hM
          refine r_callVi (x := t10) C hS cv_MF_157 (c_Pairs_countWent l base D cI cZ h4 t6 t8 t9 l2 l3 et10) (o_Pairs_countWent et10) (rest := []) rfl hl.1 rfl (Nat.le_of_ble_eq_true rfl) ⟨(Nat.le_of_ble_eq_true rfl), (Nat.le_of_ble_eq_true rfl)⟩ ⟨(Nat.le_of_ble_eq_true rfl), (Nat.le_of_ble_eq_true rfl)⟩ d_MF_votes_57 (fun H locs hS => ?_)
          obtain rfl := Option.some.inj hM
          exact r_iret C hS d_MF_votes_60
        · rw [if_pos c25_4] at hM
          refine lv_bipush (v := (-2 : Int32)) hx hb d_MF_votes_28 (by decide) ?_
          obtain rfl := Option.some.inj hM
          exact r_iret C hS d_MF_votes_30
  · rw [if_pos c4_1] at hM
    refine lv_iconst (v := (-1 : Int32)) hx hb d_MF_votes_7 (by decide) ?_
    obtain rfl := Option.some.inj hM
    exact r_iret C hS d_MF_votes_8
theorem c_MF_votes (l : Launch) (base : Nat) (D : va_G) (cI cZ : ClassId) (h : Hp) (l0 : Nat) (l1 : Int32) (l2 : Int32) (l3 : Int32) {r : (Int32 × Hp)} (hM : f_MF_votes h l0 l1 l2 l3 = some r) : Ct l base D cI cZ y_MF_votes b_MF_votes 4 (some .int) 7 170 0 0 h [.ref (base + l0), .int l1, .int l2, .int l3] r.2 (some (.int r.1)) :=
  ct_of (by decide) (Nat.le_of_ble_eq_true rfl) (fun p e s m below meth c ls C hS hl => t_MF_votes C hM _ _ _ hS hl)
theorem d_MF_moved_0 : decode b_MF_moved 0 = .ok (.iload_n 1, 1) := by decide +kernel
theorem d_MF_moved_1 : decode b_MF_moved 1 = .ok (.invokestatic 109, 3) := by decide +kernel
theorem d_MF_moved_4 : decode b_MF_moved 4 = .ok (.ifCond .ne 5, 3) := by decide +kernel
theorem d_MF_moved_7 : decode b_MF_moved 7 = .ok (.iconst (-1), 1) := by decide +kernel
theorem d_MF_moved_8 : decode b_MF_moved 8 = .ok (.ireturn, 1) := by decide +kernel
theorem d_MF_moved_9 : decode b_MF_moved 9 = .ok (.iload_n 2, 1) := by decide +kernel
theorem d_MF_moved_10 : decode b_MF_moved 10 = .ok (.invokestatic 152, 3) := by decide +kernel
theorem d_MF_moved_13 : decode b_MF_moved 13 = .ok (.ifCond .eq 12, 3) := by decide +kernel
theorem d_MF_moved_16 : decode b_MF_moved 16 = .ok (.iload_n 3, 1) := by decide +kernel
theorem d_MF_moved_17 : decode b_MF_moved 17 = .ok (.ifCond .lt 8, 3) := by decide +kernel
theorem d_MF_moved_20 : decode b_MF_moved 20 = .ok (.iload_n 3, 1) := by decide +kernel
theorem d_MF_moved_21 : decode b_MF_moved 21 = .ok (.iconst 1, 1) := by decide +kernel
theorem d_MF_moved_22 : decode b_MF_moved 22 = .ok (.if_icmp .le 6, 3) := by decide +kernel
theorem d_MF_moved_25 : decode b_MF_moved 25 = .ok (.bipush (-2), 2) := by decide +kernel
theorem d_MF_moved_27 : decode b_MF_moved 27 = .ok (.ireturn, 1) := by decide +kernel
theorem d_MF_moved_28 : decode b_MF_moved 28 = .ok (.aload_n 0, 1) := by decide +kernel
theorem d_MF_moved_29 : decode b_MF_moved 29 = .ok (.invokevirtual 130, 3) := by decide +kernel
theorem d_MF_moved_32 : decode b_MF_moved 32 = .ok (.aload_n 0, 1) := by decide +kernel
theorem d_MF_moved_33 : decode b_MF_moved 33 = .ok (.iload_n 1, 1) := by decide +kernel
theorem d_MF_moved_34 : decode b_MF_moved 34 = .ok (.invokevirtual 133, 3) := by decide +kernel
theorem d_MF_moved_37 : decode b_MF_moved 37 = .ok (.getfield 161, 3) := by decide +kernel
theorem d_MF_moved_40 : decode b_MF_moved 40 = .ok (.astore 4, 2) := by decide +kernel
theorem d_MF_moved_42 : decode b_MF_moved 42 = .ok (.aload 4, 2) := by decide +kernel
theorem d_MF_moved_44 : decode b_MF_moved 44 = .ok (.iload_n 2, 1) := by decide +kernel
theorem d_MF_moved_45 : decode b_MF_moved 45 = .ok (.invokevirtual 165, 3) := by decide +kernel
theorem d_MF_moved_48 : decode b_MF_moved 48 = .ok (.istore 5, 2) := by decide +kernel
theorem d_MF_moved_50 : decode b_MF_moved 50 = .ok (.iload_n 3, 1) := by decide +kernel
theorem d_MF_moved_51 : decode b_MF_moved 51 = .ok (.ifCond .eq 10, 3) := by decide +kernel
theorem d_MF_moved_54 : decode b_MF_moved 54 = .ok (.iload 5, 2) := by decide +kernel
theorem d_MF_moved_56 : decode b_MF_moved 56 = .ok (.bipush (-6), 2) := by decide +kernel
theorem d_MF_moved_58 : decode b_MF_moved 58 = .ok (.if_icmp .ne 6, 3) := by decide +kernel
theorem d_MF_moved_61 : decode b_MF_moved 61 = .ok (.iload 5, 2) := by decide +kernel
theorem d_MF_moved_63 : decode b_MF_moved 63 = .ok (.ireturn, 1) := by decide +kernel
theorem d_MF_moved_64 : decode b_MF_moved 64 = .ok (.aload 4, 2) := by decide +kernel
theorem d_MF_moved_66 : decode b_MF_moved 66 = .ok (.iload_n 2, 1) := by decide +kernel
theorem d_MF_moved_67 : decode b_MF_moved 67 = .ok (.invokevirtual 170, 3) := by decide +kernel
theorem d_MF_moved_70 : decode b_MF_moved 70 = .ok (.ifCond .eq 7, 3) := by decide +kernel
theorem d_MF_moved_73 : decode b_MF_moved 73 = .ok (.iconst 1, 1) := by decide +kernel
theorem d_MF_moved_74 : decode b_MF_moved 74 = .ok (.goto 4, 3) := by decide +kernel
theorem d_MF_moved_77 : decode b_MF_moved 77 = .ok (.iconst 0, 1) := by decide +kernel
theorem d_MF_moved_78 : decode b_MF_moved 78 = .ok (.ireturn, 1) := by decide +kernel
def f_MF_moved (h : Hp) (l0 : Nat) (l1 : Int32) (l2 : Int32) (l3 : Int32) : Option (Int32 × Hp) :=
  ck h 8 l0 (
    (f_MF_isSide l1).bind fun t1 =>
    if t1 = (0 : Int32) then (
      some ((-1 : Int32), h)
    ) else (
      (f_Letters_isFolder l2).bind fun t2 =>
      if t2 = (0 : Int32) then (
        some ((-2 : Int32), h)
      ) else (
        if l3 < (0 : Int32) then (
          some ((-2 : Int32), h)
        ) else (
          if l3 ≤ (1 : Int32) then (
            (f_MF_refresh h l0).bind fun h3 =>
            (f_MF_sideOf h3 l0 l1).bind fun t4 =>
            (gR h3 6 t4 1).bind fun t5 =>
            (f_Moves_targetOf h3 t5 l2).bind fun t6 =>
            if l3 = (0 : Int32) then (
              some (t6, h3)
            ) else (
              if t6 = (-6 : Int32) then (
                some (t6, h3)
              ) else (
                (f_Moves_goesRound h3 t5 l2).bind fun t7 =>
                some ((if t7 = (0 : Int32) then ((0 : Int32)) else ((1 : Int32))), h3)
              )
            )
          ) else (
            some ((-2 : Int32), h)
          )
        )
      )
    )
  )
theorem o_MF_moved {h : Hp} {l0 : Nat} {l1 : Int32} {l2 : Int32} {l3 : Int32} {r : (Int32 × Hp)} (hM : f_MF_moved h l0 l1 l2 l3 = some r) : isO h 8 l0 = true := by
  unfold f_MF_moved at hM
  exact (ck_some hM).1
set_option maxHeartbeats 4000000 in
set_option maxRecDepth 100000 in
theorem t_MF_moved {h : Hp} {l0 : Nat} {l1 : Int32} {l2 : Int32} {l3 : Int32} {r : (Int32 × Hp)} (C : Cx base D cI cZ b_MF_moved 6 "MovedFolders" "moved" (some .int) p s m args meth c) (hM : f_MF_moved h l0 l1 l2 l3 = some r) (H : Heap) (locs : List Loc) (ls : Array Slot) (hS : RS base D cI cZ s H locs h) (hl : lv_has ls 6 [(0, .ref (base + l0)), (1, .int l1), (2, .int l2), (3, .int l3)]) : Wg l base D cI cZ 7 170 0 0 r.2 (some (.int r.1)) p e s m args below meth c H locs 0 0 (F0 m 0 ls []) := by
  have hx := C.1
  have hb := C.2.1
  unfold f_MF_moved at hM
  replace hM := (ck_some hM).2
  refine lv_iload_n hx hb d_MF_moved_0 rfl (lv_at hl 1 rfl) ?_
  obtain ⟨t1, et1, hM⟩ := bS hM
  refine r_callSi (x := t1) C hS cs_MF_109 (c_MF_isSide l base D cI cZ h l1 et1) (rest := []) rfl hl.1 rfl (Nat.le_of_ble_eq_true rfl) ⟨(Nat.le_of_ble_eq_true rfl), (Nat.le_of_ble_eq_true rfl)⟩ ⟨(Nat.le_of_ble_eq_true rfl), (Nat.le_of_ble_eq_true rfl)⟩ d_MF_moved_1 (fun H locs hS => ?_)
  refine lv_if_ne (tgt := 9) hx hb d_MF_moved_4 (by decide) (fun c4_1 => ?_) (fun c4_1 => ?_)
  · rw [if_neg c4_1] at hM
    refine lv_iload_n hx hb d_MF_moved_9 rfl (lv_at hl 2 rfl) ?_
    obtain ⟨t2, et2, hM⟩ := bS hM
    refine r_callSi (x := t2) C hS cs_MF_152 (c_Letters_isFolder l base D cI cZ h l2 et2) (rest := []) rfl hl.1 rfl (Nat.le_of_ble_eq_true rfl) ⟨(Nat.le_of_ble_eq_true rfl), (Nat.le_of_ble_eq_true rfl)⟩ ⟨(Nat.le_of_ble_eq_true rfl), (Nat.le_of_ble_eq_true rfl)⟩ d_MF_moved_10 (fun H locs hS => ?_)
    refine lv_if_eq (tgt := 25) hx hb d_MF_moved_13 (by decide) (fun c13_2 => ?_) (fun c13_2 => ?_)
    · rw [if_pos c13_2] at hM
      refine lv_bipush (v := (-2 : Int32)) hx hb d_MF_moved_25 (by decide) ?_
      obtain rfl := Option.some.inj hM
      exact r_iret C hS d_MF_moved_27
    · rw [if_neg c13_2] at hM
      refine lv_iload_n hx hb d_MF_moved_16 rfl (lv_at hl 3 rfl) ?_
      refine lv_if_lt (tgt := 25) hx hb d_MF_moved_17 (by decide) (fun c17_3 => ?_) (fun c17_3 => ?_)
      · rw [if_pos c17_3] at hM
        refine lv_bipush (v := (-2 : Int32)) hx hb d_MF_moved_25 (by decide) ?_
        obtain rfl := Option.some.inj hM
        exact r_iret C hS d_MF_moved_27
      · rw [if_neg c17_3] at hM
        refine lv_iload_n hx hb d_MF_moved_20 rfl (lv_at hl 3 rfl) ?_
        refine lv_iconst (v := (1 : Int32)) hx hb d_MF_moved_21 (by decide) ?_
        refine lv_icmp_le (tgt := 28) hx hb d_MF_moved_22 (by decide) (fun c22_4 => ?_) (fun c22_4 => ?_)
        · rw [if_pos c22_4] at hM
          refine lv_aload_n hx hb d_MF_moved_28 rfl (lv_at hl 0 rfl) ?_
          obtain ⟨h3, eh3, hM⟩ := bS hM
          refine r_callVv C hS cv_MF_130 (c_MF_refresh l base D cI cZ h l0 eh3) (o_MF_refresh eh3) (rest := []) rfl hl.1 rfl (Nat.le_of_ble_eq_true rfl) ⟨(Nat.le_of_ble_eq_true rfl), (Nat.le_of_ble_eq_true rfl)⟩ ⟨(Nat.le_of_ble_eq_true rfl), (Nat.le_of_ble_eq_true rfl)⟩ d_MF_moved_29 (fun H locs hS => ?_)
          refine lv_aload_n hx hb d_MF_moved_32 rfl (lv_at hl 0 rfl) ?_
          refine lv_iload_n hx hb d_MF_moved_33 rfl (lv_at hl 1 rfl) ?_
          obtain ⟨t4, et4, hM⟩ := bS hM
          refine r_callVr (x := t4) C hS cv_MF_133 (c_MF_sideOf l base D cI cZ h3 l0 l1 et4) (o_MF_sideOf et4) (rest := []) rfl hl.1 rfl (Nat.le_of_ble_eq_true rfl) ⟨(Nat.le_of_ble_eq_true rfl), (Nat.le_of_ble_eq_true rfl)⟩ ⟨(Nat.le_of_ble_eq_true rfl), (Nat.le_of_ble_eq_true rfl)⟩ d_MF_moved_34 (fun H locs hS => ?_)
          obtain ⟨t5, et5, hM⟩ := bS hM
          refine r_getR C hS fl_MF_161 et5 d_MF_moved_37 ?_
          refine lv_astore (lv' := [(4, .ref (base + t5)), (0, .ref (base + l0)), (1, .int l1), (2, .int l2), (3, .int l3)]) hx hb d_MF_moved_40 hl (by decide) rfl (fun ls hl => ?_)
          refine lv_aload hx hb d_MF_moved_42 (lv_at hl 0 rfl) ?_
          refine lv_iload_n hx hb d_MF_moved_44 rfl (lv_at hl 3 rfl) ?_
          obtain ⟨t6, et6, hM⟩ := bS hM
          refine r_callVi (x := t6) C hS cv_MF_165 (c_Moves_targetOf l base D cI cZ h3 t5 l2 et6) (o_Moves_targetOf et6) (rest := []) rfl hl.1 rfl (Nat.le_of_ble_eq_true rfl) ⟨(Nat.le_of_ble_eq_true rfl), (Nat.le_of_ble_eq_true rfl)⟩ ⟨(Nat.le_of_ble_eq_true rfl), (Nat.le_of_ble_eq_true rfl)⟩ d_MF_moved_45 (fun H locs hS => ?_)
          refine lv_istore (lv' := [(5, .int t6), (4, .ref (base + t5)), (0, .ref (base + l0)), (1, .int l1), (2, .int l2), (3, .int l3)]) hx hb d_MF_moved_48 hl (by decide) rfl (fun ls hl => ?_)
          refine lv_iload_n hx hb d_MF_moved_50 rfl (lv_at hl 5 rfl) ?_
          refine lv_if_eq (tgt := 61) hx hb d_MF_moved_51 (by decide) (fun c51_5 => ?_) (fun c51_5 => ?_)
          · rw [if_pos c51_5] at hM
            refine lv_iload hx hb d_MF_moved_61 (lv_at hl 0 rfl) ?_
            obtain rfl := Option.some.inj hM
            exact r_iret C hS d_MF_moved_63
          · rw [if_neg c51_5] at hM
            refine lv_iload hx hb d_MF_moved_54 (lv_at hl 0 rfl) ?_
            refine lv_bipush (v := (-6 : Int32)) hx hb d_MF_moved_56 (by decide) ?_
            refine lv_icmp_ne (tgt := 64) hx hb d_MF_moved_58 (by decide) (fun c58_6 => ?_) (fun c58_6 => ?_)
            · rw [if_neg c58_6] at hM
              refine lv_aload hx hb d_MF_moved_64 (lv_at hl 1 rfl) ?_
              refine lv_iload_n hx hb d_MF_moved_66 rfl (lv_at hl 4 rfl) ?_
              obtain ⟨t7, et7, hM⟩ := bS hM
              refine r_callVi (x := t7) C hS cv_MF_170 (c_Moves_goesRound l base D cI cZ h3 t5 l2 et7) (o_Moves_goesRound et7) (rest := []) rfl hl.1 rfl (Nat.le_of_ble_eq_true rfl) ⟨(Nat.le_of_ble_eq_true rfl), (Nat.le_of_ble_eq_true rfl)⟩ ⟨(Nat.le_of_ble_eq_true rfl), (Nat.le_of_ble_eq_true rfl)⟩ d_MF_moved_67 (fun H locs hS => ?_)
              have kJ78_7 : ∀ (H : Heap) (locs : List Loc) (ls : Array Slot), RS base D cI cZ s H locs h3 → lv_has ls 6 [] → Wg l base D cI cZ 7 170 0 0 r.2 (some (.int r.1)) p e s m args below meth c H locs 0 0 (F0 m 78 ls [.int (if t7 = (0 : Int32) then ((0 : Int32)) else ((1 : Int32)))]) := by
                intro H locs ls hS hl
                obtain rfl := Option.some.inj hM
                exact r_iret C hS d_MF_moved_78
              refine lv_if_eq (tgt := 77) hx hb d_MF_moved_70 (by decide) (fun c70_8 => ?_) (fun c70_8 => ?_)
              · rw [if_pos c70_8] at kJ78_7
                refine lv_iconst (v := (0 : Int32)) hx hb d_MF_moved_77 (by decide) ?_
                exact kJ78_7 _ _ _ hS (lv_sub hl [] rfl)
              · rw [if_neg c70_8] at kJ78_7
                refine lv_iconst (v := (1 : Int32)) hx hb d_MF_moved_73 (by decide) ?_
                refine lv_goto (tgt := 78) hx hb d_MF_moved_74 (by decide) ?_
                exact kJ78_7 _ _ _ hS (lv_sub hl [] rfl)
            · rw [if_pos c58_6] at hM
              refine lv_iload hx hb d_MF_moved_61 (lv_at hl 0 rfl) ?_
              obtain rfl := Option.some.inj hM
              exact r_iret C hS d_MF_moved_63
        · rw [if_neg c22_4] at hM
          refine lv_bipush (v := (-2 : Int32)) hx hb d_MF_moved_25 (by decide) ?_
          obtain rfl := Option.some.inj hM
          exact r_iret C hS d_MF_moved_27
  · rw [if_pos c4_1] at hM
    refine lv_iconst (v := (-1 : Int32)) hx hb d_MF_moved_7 (by decide) ?_
    obtain rfl := Option.some.inj hM
    exact r_iret C hS d_MF_moved_8
theorem c_MF_moved (l : Launch) (base : Nat) (D : va_G) (cI cZ : ClassId) (h : Hp) (l0 : Nat) (l1 : Int32) (l2 : Int32) (l3 : Int32) {r : (Int32 × Hp)} (hM : f_MF_moved h l0 l1 l2 l3 = some r) : Ct l base D cI cZ y_MF_moved b_MF_moved 6 (some .int) 7 170 0 0 h [.ref (base + l0), .int l1, .int l2, .int l3] r.2 (some (.int r.1)) :=
  ct_of (by decide) (Nat.le_of_ble_eq_true rfl) (fun p e s m below meth c ls C hS hl => t_MF_moved C hM _ _ _ hS hl)
theorem d_MF_dest_0 : decode b_MF_dest 0 = .ok (.iload_n 1, 1) := by decide +kernel
theorem d_MF_dest_1 : decode b_MF_dest 1 = .ok (.invokestatic 109, 3) := by decide +kernel
theorem d_MF_dest_4 : decode b_MF_dest 4 = .ok (.ifCond .ne 5, 3) := by decide +kernel
theorem d_MF_dest_7 : decode b_MF_dest 7 = .ok (.iconst (-1), 1) := by decide +kernel
theorem d_MF_dest_8 : decode b_MF_dest 8 = .ok (.ireturn, 1) := by decide +kernel
theorem d_MF_dest_9 : decode b_MF_dest 9 = .ok (.iload_n 2, 1) := by decide +kernel
theorem d_MF_dest_10 : decode b_MF_dest 10 = .ok (.invokestatic 152, 3) := by decide +kernel
theorem d_MF_dest_13 : decode b_MF_dest 13 = .ok (.ifCond .ne 6, 3) := by decide +kernel
theorem d_MF_dest_16 : decode b_MF_dest 16 = .ok (.bipush (-2), 2) := by decide +kernel
theorem d_MF_dest_18 : decode b_MF_dest 18 = .ok (.ireturn, 1) := by decide +kernel
theorem d_MF_dest_19 : decode b_MF_dest 19 = .ok (.aload_n 0, 1) := by decide +kernel
theorem d_MF_dest_20 : decode b_MF_dest 20 = .ok (.invokevirtual 130, 3) := by decide +kernel
theorem d_MF_dest_23 : decode b_MF_dest 23 = .ok (.aload_n 0, 1) := by decide +kernel
theorem d_MF_dest_24 : decode b_MF_dest 24 = .ok (.iload_n 1, 1) := by decide +kernel
theorem d_MF_dest_25 : decode b_MF_dest 25 = .ok (.invokevirtual 133, 3) := by decide +kernel
theorem d_MF_dest_28 : decode b_MF_dest 28 = .ok (.getfield 161, 3) := by decide +kernel
theorem d_MF_dest_31 : decode b_MF_dest 31 = .ok (.iload_n 2, 1) := by decide +kernel
theorem d_MF_dest_32 : decode b_MF_dest 32 = .ok (.invokevirtual 173, 3) := by decide +kernel
theorem d_MF_dest_35 : decode b_MF_dest 35 = .ok (.ireturn, 1) := by decide +kernel
def f_MF_dest (h : Hp) (l0 : Nat) (l1 : Int32) (l2 : Int32) : Option (Int32 × Hp) :=
  ck h 8 l0 (
    (f_MF_isSide l1).bind fun t1 =>
    if t1 = (0 : Int32) then (
      some ((-1 : Int32), h)
    ) else (
      (f_Letters_isFolder l2).bind fun t2 =>
      if t2 = (0 : Int32) then (
        some ((-2 : Int32), h)
      ) else (
        (f_MF_refresh h l0).bind fun h3 =>
        (f_MF_sideOf h3 l0 l1).bind fun t4 =>
        (gR h3 6 t4 1).bind fun t5 =>
        (f_Moves_follow h3 t5 l2).bind fun t6 =>
        some (t6, h3)
      )
    )
  )
theorem o_MF_dest {h : Hp} {l0 : Nat} {l1 : Int32} {l2 : Int32} {r : (Int32 × Hp)} (hM : f_MF_dest h l0 l1 l2 = some r) : isO h 8 l0 = true := by
  unfold f_MF_dest at hM
  exact (ck_some hM).1
set_option maxHeartbeats 4000000 in
set_option maxRecDepth 100000 in
theorem t_MF_dest {h : Hp} {l0 : Nat} {l1 : Int32} {l2 : Int32} {r : (Int32 × Hp)} (C : Cx base D cI cZ b_MF_dest 3 "MovedFolders" "dest" (some .int) p s m args meth c) (hM : f_MF_dest h l0 l1 l2 = some r) (H : Heap) (locs : List Loc) (ls : Array Slot) (hS : RS base D cI cZ s H locs h) (hl : lv_has ls 3 [(0, .ref (base + l0)), (1, .int l1), (2, .int l2)]) : Wg l base D cI cZ 7 170 0 0 r.2 (some (.int r.1)) p e s m args below meth c H locs 0 0 (F0 m 0 ls []) := by
  have hx := C.1
  have hb := C.2.1
  unfold f_MF_dest at hM
  replace hM := (ck_some hM).2
  refine lv_iload_n hx hb d_MF_dest_0 rfl (lv_at hl 1 rfl) ?_
  obtain ⟨t1, et1, hM⟩ := bS hM
  refine r_callSi (x := t1) C hS cs_MF_109 (c_MF_isSide l base D cI cZ h l1 et1) (rest := []) rfl hl.1 rfl (Nat.le_of_ble_eq_true rfl) ⟨(Nat.le_of_ble_eq_true rfl), (Nat.le_of_ble_eq_true rfl)⟩ ⟨(Nat.le_of_ble_eq_true rfl), (Nat.le_of_ble_eq_true rfl)⟩ d_MF_dest_1 (fun H locs hS => ?_)
  refine lv_if_ne (tgt := 9) hx hb d_MF_dest_4 (by decide) (fun c4_1 => ?_) (fun c4_1 => ?_)
  · rw [if_neg c4_1] at hM
    refine lv_iload_n hx hb d_MF_dest_9 rfl (lv_at hl 2 rfl) ?_
    obtain ⟨t2, et2, hM⟩ := bS hM
    refine r_callSi (x := t2) C hS cs_MF_152 (c_Letters_isFolder l base D cI cZ h l2 et2) (rest := []) rfl hl.1 rfl (Nat.le_of_ble_eq_true rfl) ⟨(Nat.le_of_ble_eq_true rfl), (Nat.le_of_ble_eq_true rfl)⟩ ⟨(Nat.le_of_ble_eq_true rfl), (Nat.le_of_ble_eq_true rfl)⟩ d_MF_dest_10 (fun H locs hS => ?_)
    refine lv_if_ne (tgt := 19) hx hb d_MF_dest_13 (by decide) (fun c13_2 => ?_) (fun c13_2 => ?_)
    · rw [if_neg c13_2] at hM
      refine lv_aload_n hx hb d_MF_dest_19 rfl (lv_at hl 0 rfl) ?_
      obtain ⟨h3, eh3, hM⟩ := bS hM
      refine r_callVv C hS cv_MF_130 (c_MF_refresh l base D cI cZ h l0 eh3) (o_MF_refresh eh3) (rest := []) rfl hl.1 rfl (Nat.le_of_ble_eq_true rfl) ⟨(Nat.le_of_ble_eq_true rfl), (Nat.le_of_ble_eq_true rfl)⟩ ⟨(Nat.le_of_ble_eq_true rfl), (Nat.le_of_ble_eq_true rfl)⟩ d_MF_dest_20 (fun H locs hS => ?_)
      refine lv_aload_n hx hb d_MF_dest_23 rfl (lv_at hl 0 rfl) ?_
      refine lv_iload_n hx hb d_MF_dest_24 rfl (lv_at hl 1 rfl) ?_
      obtain ⟨t4, et4, hM⟩ := bS hM
      refine r_callVr (x := t4) C hS cv_MF_133 (c_MF_sideOf l base D cI cZ h3 l0 l1 et4) (o_MF_sideOf et4) (rest := []) rfl hl.1 rfl (Nat.le_of_ble_eq_true rfl) ⟨(Nat.le_of_ble_eq_true rfl), (Nat.le_of_ble_eq_true rfl)⟩ ⟨(Nat.le_of_ble_eq_true rfl), (Nat.le_of_ble_eq_true rfl)⟩ d_MF_dest_25 (fun H locs hS => ?_)
      obtain ⟨t5, et5, hM⟩ := bS hM
      refine r_getR C hS fl_MF_161 et5 d_MF_dest_28 ?_
      refine lv_iload_n hx hb d_MF_dest_31 rfl (lv_at hl 2 rfl) ?_
      obtain ⟨t6, et6, hM⟩ := bS hM
      refine r_callVi (x := t6) C hS cv_MF_173 (c_Moves_follow l base D cI cZ h3 t5 l2 et6) (o_Moves_follow et6) (rest := []) rfl hl.1 rfl (Nat.le_of_ble_eq_true rfl) ⟨(Nat.le_of_ble_eq_true rfl), (Nat.le_of_ble_eq_true rfl)⟩ ⟨(Nat.le_of_ble_eq_true rfl), (Nat.le_of_ble_eq_true rfl)⟩ d_MF_dest_32 (fun H locs hS => ?_)
      obtain rfl := Option.some.inj hM
      exact r_iret C hS d_MF_dest_35
    · rw [if_pos c13_2] at hM
      refine lv_bipush (v := (-2 : Int32)) hx hb d_MF_dest_16 (by decide) ?_
      obtain rfl := Option.some.inj hM
      exact r_iret C hS d_MF_dest_18
  · rw [if_pos c4_1] at hM
    refine lv_iconst (v := (-1 : Int32)) hx hb d_MF_dest_7 (by decide) ?_
    obtain rfl := Option.some.inj hM
    exact r_iret C hS d_MF_dest_8
theorem c_MF_dest (l : Launch) (base : Nat) (D : va_G) (cI cZ : ClassId) (h : Hp) (l0 : Nat) (l1 : Int32) (l2 : Int32) {r : (Int32 × Hp)} (hM : f_MF_dest h l0 l1 l2 = some r) : Ct l base D cI cZ y_MF_dest b_MF_dest 3 (some .int) 7 170 0 0 h [.ref (base + l0), .int l1, .int l2] r.2 (some (.int r.1)) :=
  ct_of (by decide) (Nat.le_of_ble_eq_true rfl) (fun p e s m below meth c ls C hS hl => t_MF_dest C hM _ _ _ hS hl)
theorem d_MF_entry_0 : decode b_MF_entry 0 = .ok (.iload_n 2, 1) := by decide +kernel
theorem d_MF_entry_1 : decode b_MF_entry 1 = .ok (.ifCond .lt 17, 3) := by decide +kernel
theorem d_MF_entry_4 : decode b_MF_entry 4 = .ok (.iload_n 2, 1) := by decide +kernel
theorem d_MF_entry_5 : decode b_MF_entry 5 = .ok (.iload_n 1, 1) := by decide +kernel
theorem d_MF_entry_6 : decode b_MF_entry 6 = .ok (.iconst (-1), 1) := by decide +kernel
theorem d_MF_entry_7 : decode b_MF_entry 7 = .ok (.if_icmp .ne 7, 3) := by decide +kernel
theorem d_MF_entry_10 : decode b_MF_entry 10 = .ok (.iconst 0, 1) := by decide +kernel
theorem d_MF_entry_11 : decode b_MF_entry 11 = .ok (.goto 4, 3) := by decide +kernel
theorem d_MF_entry_14 : decode b_MF_entry 14 = .ok (.iconst 3, 1) := by decide +kernel
theorem d_MF_entry_15 : decode b_MF_entry 15 = .ok (.if_icmp .le 6, 3) := by decide +kernel
theorem d_MF_entry_18 : decode b_MF_entry 18 = .ok (.bipush (-2), 2) := by decide +kernel
theorem d_MF_entry_20 : decode b_MF_entry 20 = .ok (.ireturn, 1) := by decide +kernel
theorem d_MF_entry_21 : decode b_MF_entry 21 = .ok (.aload_n 0, 1) := by decide +kernel
theorem d_MF_entry_22 : decode b_MF_entry 22 = .ok (.invokevirtual 130, 3) := by decide +kernel
theorem d_MF_entry_25 : decode b_MF_entry 25 = .ok (.iload_n 1, 1) := by decide +kernel
theorem d_MF_entry_26 : decode b_MF_entry 26 = .ok (.iconst (-1), 1) := by decide +kernel
theorem d_MF_entry_27 : decode b_MF_entry 27 = .ok (.if_icmp .ne 13, 3) := by decide +kernel
theorem d_MF_entry_30 : decode b_MF_entry 30 = .ok (.aload_n 0, 1) := by decide +kernel
theorem d_MF_entry_31 : decode b_MF_entry 31 = .ok (.getfield 53, 3) := by decide +kernel
theorem d_MF_entry_34 : decode b_MF_entry 34 = .ok (.invokevirtual 176, 3) := by decide +kernel
theorem d_MF_entry_37 : decode b_MF_entry 37 = .ok (.goto 12, 3) := by decide +kernel
theorem d_MF_entry_40 : decode b_MF_entry 40 = .ok (.aload_n 0, 1) := by decide +kernel
theorem d_MF_entry_41 : decode b_MF_entry 41 = .ok (.getfield 53, 3) := by decide +kernel
theorem d_MF_entry_44 : decode b_MF_entry 44 = .ok (.iload_n 1, 1) := by decide +kernel
theorem d_MF_entry_45 : decode b_MF_entry 45 = .ok (.iload_n 2, 1) := by decide +kernel
theorem d_MF_entry_46 : decode b_MF_entry 46 = .ok (.invokevirtual 177, 3) := by decide +kernel
theorem d_MF_entry_49 : decode b_MF_entry 49 = .ok (.ireturn, 1) := by decide +kernel
def f_MF_entry (h : Hp) (l0 : Nat) (l1 : Int32) (l2 : Int32) : Option (Int32 × Hp) :=
  ck h 8 l0 (
    if l2 < (0 : Int32) then (
      some ((-2 : Int32), h)
    ) else (
      if l2 ≤ (if l1 = (-1 : Int32) then ((0 : Int32)) else ((3 : Int32))) then (
        (f_MF_refresh h l0).bind fun h1 =>
        (
          if l1 = (-1 : Int32) then (
            (gR h1 8 l0 8).bind fun t5 =>
            (f_Merge_size h1 t5).bind fun t6 =>
            some t6
          ) else (
            (gR h1 8 l0 8).bind fun t3 =>
            (f_Merge_tell h1 t3 l1 l2).bind fun t4 =>
            some t4
          )
        ).bind fun t2 =>
        some (t2, h1)
      ) else (
        some ((-2 : Int32), h)
      )
    )
  )
theorem o_MF_entry {h : Hp} {l0 : Nat} {l1 : Int32} {l2 : Int32} {r : (Int32 × Hp)} (hM : f_MF_entry h l0 l1 l2 = some r) : isO h 8 l0 = true := by
  unfold f_MF_entry at hM
  exact (ck_some hM).1
set_option maxHeartbeats 4000000 in
set_option maxRecDepth 100000 in
theorem t_MF_entry {h : Hp} {l0 : Nat} {l1 : Int32} {l2 : Int32} {r : (Int32 × Hp)} (C : Cx base D cI cZ b_MF_entry 3 "MovedFolders" "entry" (some .int) p s m args meth c) (hM : f_MF_entry h l0 l1 l2 = some r) (H : Heap) (locs : List Loc) (ls : Array Slot) (hS : RS base D cI cZ s H locs h) (hl : lv_has ls 3 [(0, .ref (base + l0)), (1, .int l1), (2, .int l2)]) : Wg l base D cI cZ 7 170 0 0 r.2 (some (.int r.1)) p e s m args below meth c H locs 0 0 (F0 m 0 ls []) := by
  have hx := C.1
  have hb := C.2.1
  unfold f_MF_entry at hM
  replace hM := (ck_some hM).2
  refine lv_iload_n hx hb d_MF_entry_0 rfl (lv_at hl 2 rfl) ?_
  refine lv_if_lt (tgt := 18) hx hb d_MF_entry_1 (by decide) (fun c1_1 => ?_) (fun c1_1 => ?_)
  · rw [if_pos c1_1] at hM
    refine lv_bipush (v := (-2 : Int32)) hx hb d_MF_entry_18 (by decide) ?_
    obtain rfl := Option.some.inj hM
    exact r_iret C hS d_MF_entry_20
  · rw [if_neg c1_1] at hM
    refine lv_iload_n hx hb d_MF_entry_4 rfl (lv_at hl 2 rfl) ?_
    refine lv_iload_n hx hb d_MF_entry_5 rfl (lv_at hl 1 rfl) ?_
    refine lv_iconst (v := (-1 : Int32)) hx hb d_MF_entry_6 (by decide) ?_
    have kJ15_2 : ∀ (H : Heap) (locs : List Loc) (ls : Array Slot), RS base D cI cZ s H locs h → lv_has ls 3 [(0, .ref (base + l0)), (1, .int l1), (2, .int l2)] → Wg l base D cI cZ 7 170 0 0 r.2 (some (.int r.1)) p e s m args below meth c H locs 0 0 (F0 m 15 ls [.int (if l1 = (-1 : Int32) then ((0 : Int32)) else ((3 : Int32))), .int l2]) := by
      intro H locs ls hS hl
      refine lv_icmp_le (tgt := 21) hx hb d_MF_entry_15 (by decide) (fun c15_4 => ?_) (fun c15_4 => ?_)
      · rw [if_pos c15_4] at hM
        refine lv_aload_n hx hb d_MF_entry_21 rfl (lv_at hl 0 rfl) ?_
        obtain ⟨h1, eh1, hM⟩ := bS hM
        refine r_callVv C hS cv_MF_130 (c_MF_refresh l base D cI cZ h l0 eh1) (o_MF_refresh eh1) (rest := []) rfl hl.1 rfl (Nat.le_of_ble_eq_true rfl) ⟨(Nat.le_of_ble_eq_true rfl), (Nat.le_of_ble_eq_true rfl)⟩ ⟨(Nat.le_of_ble_eq_true rfl), (Nat.le_of_ble_eq_true rfl)⟩ d_MF_entry_22 (fun H locs hS => ?_)
        refine lv_iload_n hx hb d_MF_entry_25 rfl (lv_at hl 1 rfl) ?_
        refine lv_iconst (v := (-1 : Int32)) hx hb d_MF_entry_26 (by decide) ?_
        obtain ⟨t2, et2, hM⟩ := bS hM
        have kJ49_5 : ∀ (H : Heap) (locs : List Loc) (ls : Array Slot), RS base D cI cZ s H locs h1 → lv_has ls 3 [] → Wg l base D cI cZ 7 170 0 0 r.2 (some (.int r.1)) p e s m args below meth c H locs 0 0 (F0 m 49 ls [.int t2]) := by
          intro H locs ls hS hl
          obtain rfl := Option.some.inj hM
          exact r_iret C hS d_MF_entry_49
        refine lv_icmp_ne (tgt := 40) hx hb d_MF_entry_27 (by decide) (fun c27_6 => ?_) (fun c27_6 => ?_)
        · rw [if_neg c27_6] at et2
          refine lv_aload_n hx hb d_MF_entry_40 rfl (lv_at hl 0 rfl) ?_
          obtain ⟨t3, et3, et2⟩ := bS et2
          refine r_getR C hS fl_MF_53 et3 d_MF_entry_41 ?_
          refine lv_iload_n hx hb d_MF_entry_44 rfl (lv_at hl 1 rfl) ?_
          refine lv_iload_n hx hb d_MF_entry_45 rfl (lv_at hl 2 rfl) ?_
          obtain ⟨t4, et4, et2⟩ := bS et2
          refine r_callVi (x := t4) C hS cv_MF_177 (c_Merge_tell l base D cI cZ h1 t3 l1 l2 et4) (o_Merge_tell et4) (rest := []) rfl hl.1 rfl (Nat.le_of_ble_eq_true rfl) ⟨(Nat.le_of_ble_eq_true rfl), (Nat.le_of_ble_eq_true rfl)⟩ ⟨(Nat.le_of_ble_eq_true rfl), (Nat.le_of_ble_eq_true rfl)⟩ d_MF_entry_46 (fun H locs hS => ?_)
          obtain rfl := Option.some.inj et2
          exact kJ49_5 _ _ _ hS (lv_sub hl [] rfl)
        · rw [if_pos c27_6] at et2
          refine lv_aload_n hx hb d_MF_entry_30 rfl (lv_at hl 0 rfl) ?_
          obtain ⟨t5, et5, et2⟩ := bS et2
          refine r_getR C hS fl_MF_53 et5 d_MF_entry_31 ?_
          obtain ⟨t6, et6, et2⟩ := bS et2
          refine r_callVi (x := t6) C hS cv_MF_176 (c_Merge_size l base D cI cZ h1 t5 et6) (o_Merge_size et6) (rest := []) rfl hl.1 rfl (Nat.le_of_ble_eq_true rfl) ⟨(Nat.le_of_ble_eq_true rfl), (Nat.le_of_ble_eq_true rfl)⟩ ⟨(Nat.le_of_ble_eq_true rfl), (Nat.le_of_ble_eq_true rfl)⟩ d_MF_entry_34 (fun H locs hS => ?_)
          refine lv_goto (tgt := 49) hx hb d_MF_entry_37 (by decide) ?_
          obtain rfl := Option.some.inj et2
          exact kJ49_5 _ _ _ hS (lv_sub hl [] rfl)
      · rw [if_neg c15_4] at hM
        refine lv_bipush (v := (-2 : Int32)) hx hb d_MF_entry_18 (by decide) ?_
        obtain rfl := Option.some.inj hM
        exact r_iret C hS d_MF_entry_20
    refine lv_icmp_ne (tgt := 14) hx hb d_MF_entry_7 (by decide) (fun c7_3 => ?_) (fun c7_3 => ?_)
    · rw [if_neg c7_3] at kJ15_2
      refine lv_iconst (v := (3 : Int32)) hx hb d_MF_entry_14 (by decide) ?_
      exact kJ15_2 _ _ _ hS (lv_sub hl [0, 1, 2] rfl)
    · rw [if_pos c7_3] at kJ15_2
      refine lv_iconst (v := (0 : Int32)) hx hb d_MF_entry_10 (by decide) ?_
      refine lv_goto (tgt := 15) hx hb d_MF_entry_11 (by decide) ?_
      exact kJ15_2 _ _ _ hS (lv_sub hl [0, 1, 2] rfl)
theorem c_MF_entry (l : Launch) (base : Nat) (D : va_G) (cI cZ : ClassId) (h : Hp) (l0 : Nat) (l1 : Int32) (l2 : Int32) {r : (Int32 × Hp)} (hM : f_MF_entry h l0 l1 l2 = some r) : Ct l base D cI cZ y_MF_entry b_MF_entry 3 (some .int) 7 170 0 0 h [.ref (base + l0), .int l1, .int l2] r.2 (some (.int r.1)) :=
  ct_of (by decide) (Nat.le_of_ble_eq_true rfl) (fun p e s m below meth c ls C hS hl => t_MF_entry C hM _ _ _ hS hl)
theorem d_MF_clash_0 : decode b_MF_clash 0 = .ok (.iload_n 2, 1) := by decide +kernel
theorem d_MF_clash_1 : decode b_MF_clash 1 = .ok (.ifCond .lt 17, 3) := by decide +kernel
theorem d_MF_clash_4 : decode b_MF_clash 4 = .ok (.iload_n 2, 1) := by decide +kernel
theorem d_MF_clash_5 : decode b_MF_clash 5 = .ok (.iload_n 1, 1) := by decide +kernel
theorem d_MF_clash_6 : decode b_MF_clash 6 = .ok (.iconst (-1), 1) := by decide +kernel
theorem d_MF_clash_7 : decode b_MF_clash 7 = .ok (.if_icmp .ne 7, 3) := by decide +kernel
theorem d_MF_clash_10 : decode b_MF_clash 10 = .ok (.iconst 0, 1) := by decide +kernel
theorem d_MF_clash_11 : decode b_MF_clash 11 = .ok (.goto 4, 3) := by decide +kernel
theorem d_MF_clash_14 : decode b_MF_clash 14 = .ok (.iconst 1, 1) := by decide +kernel
theorem d_MF_clash_15 : decode b_MF_clash 15 = .ok (.if_icmp .le 6, 3) := by decide +kernel
theorem d_MF_clash_18 : decode b_MF_clash 18 = .ok (.bipush (-2), 2) := by decide +kernel
theorem d_MF_clash_20 : decode b_MF_clash 20 = .ok (.ireturn, 1) := by decide +kernel
theorem d_MF_clash_21 : decode b_MF_clash 21 = .ok (.aload_n 0, 1) := by decide +kernel
theorem d_MF_clash_22 : decode b_MF_clash 22 = .ok (.invokevirtual 130, 3) := by decide +kernel
theorem d_MF_clash_25 : decode b_MF_clash 25 = .ok (.iload_n 1, 1) := by decide +kernel
theorem d_MF_clash_26 : decode b_MF_clash 26 = .ok (.iconst (-1), 1) := by decide +kernel
theorem d_MF_clash_27 : decode b_MF_clash 27 = .ok (.if_icmp .ne 13, 3) := by decide +kernel
theorem d_MF_clash_30 : decode b_MF_clash 30 = .ok (.aload_n 0, 1) := by decide +kernel
theorem d_MF_clash_31 : decode b_MF_clash 31 = .ok (.getfield 53, 3) := by decide +kernel
theorem d_MF_clash_34 : decode b_MF_clash 34 = .ok (.invokevirtual 180, 3) := by decide +kernel
theorem d_MF_clash_37 : decode b_MF_clash 37 = .ok (.goto 12, 3) := by decide +kernel
theorem d_MF_clash_40 : decode b_MF_clash 40 = .ok (.aload_n 0, 1) := by decide +kernel
theorem d_MF_clash_41 : decode b_MF_clash 41 = .ok (.getfield 53, 3) := by decide +kernel
theorem d_MF_clash_44 : decode b_MF_clash 44 = .ok (.iload_n 1, 1) := by decide +kernel
theorem d_MF_clash_45 : decode b_MF_clash 45 = .ok (.iload_n 2, 1) := by decide +kernel
theorem d_MF_clash_46 : decode b_MF_clash 46 = .ok (.invokevirtual 183, 3) := by decide +kernel
theorem d_MF_clash_49 : decode b_MF_clash 49 = .ok (.ireturn, 1) := by decide +kernel
def f_MF_clash (h : Hp) (l0 : Nat) (l1 : Int32) (l2 : Int32) : Option (Int32 × Hp) :=
  ck h 8 l0 (
    if l2 < (0 : Int32) then (
      some ((-2 : Int32), h)
    ) else (
      if l2 ≤ (if l1 = (-1 : Int32) then ((0 : Int32)) else ((1 : Int32))) then (
        (f_MF_refresh h l0).bind fun h1 =>
        (
          if l1 = (-1 : Int32) then (
            (gR h1 8 l0 8).bind fun t5 =>
            (f_Merge_clashSize h1 t5).bind fun t6 =>
            some t6
          ) else (
            (gR h1 8 l0 8).bind fun t3 =>
            (f_Merge_tellClash h1 t3 l1 l2).bind fun t4 =>
            some t4
          )
        ).bind fun t2 =>
        some (t2, h1)
      ) else (
        some ((-2 : Int32), h)
      )
    )
  )
theorem o_MF_clash {h : Hp} {l0 : Nat} {l1 : Int32} {l2 : Int32} {r : (Int32 × Hp)} (hM : f_MF_clash h l0 l1 l2 = some r) : isO h 8 l0 = true := by
  unfold f_MF_clash at hM
  exact (ck_some hM).1
set_option maxHeartbeats 4000000 in
set_option maxRecDepth 100000 in
theorem t_MF_clash {h : Hp} {l0 : Nat} {l1 : Int32} {l2 : Int32} {r : (Int32 × Hp)} (C : Cx base D cI cZ b_MF_clash 3 "MovedFolders" "clash" (some .int) p s m args meth c) (hM : f_MF_clash h l0 l1 l2 = some r) (H : Heap) (locs : List Loc) (ls : Array Slot) (hS : RS base D cI cZ s H locs h) (hl : lv_has ls 3 [(0, .ref (base + l0)), (1, .int l1), (2, .int l2)]) : Wg l base D cI cZ 7 170 0 0 r.2 (some (.int r.1)) p e s m args below meth c H locs 0 0 (F0 m 0 ls []) := by
  have hx := C.1
  have hb := C.2.1
  unfold f_MF_clash at hM
  replace hM := (ck_some hM).2
  refine lv_iload_n hx hb d_MF_clash_0 rfl (lv_at hl 2 rfl) ?_
  refine lv_if_lt (tgt := 18) hx hb d_MF_clash_1 (by decide) (fun c1_1 => ?_) (fun c1_1 => ?_)
  · rw [if_pos c1_1] at hM
    refine lv_bipush (v := (-2 : Int32)) hx hb d_MF_clash_18 (by decide) ?_
    obtain rfl := Option.some.inj hM
    exact r_iret C hS d_MF_clash_20
  · rw [if_neg c1_1] at hM
    refine lv_iload_n hx hb d_MF_clash_4 rfl (lv_at hl 2 rfl) ?_
    refine lv_iload_n hx hb d_MF_clash_5 rfl (lv_at hl 1 rfl) ?_
    refine lv_iconst (v := (-1 : Int32)) hx hb d_MF_clash_6 (by decide) ?_
    have kJ15_2 : ∀ (H : Heap) (locs : List Loc) (ls : Array Slot), RS base D cI cZ s H locs h → lv_has ls 3 [(0, .ref (base + l0)), (1, .int l1), (2, .int l2)] → Wg l base D cI cZ 7 170 0 0 r.2 (some (.int r.1)) p e s m args below meth c H locs 0 0 (F0 m 15 ls [.int (if l1 = (-1 : Int32) then ((0 : Int32)) else ((1 : Int32))), .int l2]) := by
      intro H locs ls hS hl
      refine lv_icmp_le (tgt := 21) hx hb d_MF_clash_15 (by decide) (fun c15_4 => ?_) (fun c15_4 => ?_)
      · rw [if_pos c15_4] at hM
        refine lv_aload_n hx hb d_MF_clash_21 rfl (lv_at hl 0 rfl) ?_
        obtain ⟨h1, eh1, hM⟩ := bS hM
        refine r_callVv C hS cv_MF_130 (c_MF_refresh l base D cI cZ h l0 eh1) (o_MF_refresh eh1) (rest := []) rfl hl.1 rfl (Nat.le_of_ble_eq_true rfl) ⟨(Nat.le_of_ble_eq_true rfl), (Nat.le_of_ble_eq_true rfl)⟩ ⟨(Nat.le_of_ble_eq_true rfl), (Nat.le_of_ble_eq_true rfl)⟩ d_MF_clash_22 (fun H locs hS => ?_)
        refine lv_iload_n hx hb d_MF_clash_25 rfl (lv_at hl 1 rfl) ?_
        refine lv_iconst (v := (-1 : Int32)) hx hb d_MF_clash_26 (by decide) ?_
        obtain ⟨t2, et2, hM⟩ := bS hM
        have kJ49_5 : ∀ (H : Heap) (locs : List Loc) (ls : Array Slot), RS base D cI cZ s H locs h1 → lv_has ls 3 [] → Wg l base D cI cZ 7 170 0 0 r.2 (some (.int r.1)) p e s m args below meth c H locs 0 0 (F0 m 49 ls [.int t2]) := by
          intro H locs ls hS hl
          obtain rfl := Option.some.inj hM
          exact r_iret C hS d_MF_clash_49
        refine lv_icmp_ne (tgt := 40) hx hb d_MF_clash_27 (by decide) (fun c27_6 => ?_) (fun c27_6 => ?_)
        · rw [if_neg c27_6] at et2
          refine lv_aload_n hx hb d_MF_clash_40 rfl (lv_at hl 0 rfl) ?_
          obtain ⟨t3, et3, et2⟩ := bS et2
          refine r_getR C hS fl_MF_53 et3 d_MF_clash_41 ?_
          refine lv_iload_n hx hb d_MF_clash_44 rfl (lv_at hl 1 rfl) ?_
          refine lv_iload_n hx hb d_MF_clash_45 rfl (lv_at hl 2 rfl) ?_
          obtain ⟨t4, et4, et2⟩ := bS et2
          refine r_callVi (x := t4) C hS cv_MF_183 (c_Merge_tellClash l base D cI cZ h1 t3 l1 l2 et4) (o_Merge_tellClash et4) (rest := []) rfl hl.1 rfl (Nat.le_of_ble_eq_true rfl) ⟨(Nat.le_of_ble_eq_true rfl), (Nat.le_of_ble_eq_true rfl)⟩ ⟨(Nat.le_of_ble_eq_true rfl), (Nat.le_of_ble_eq_true rfl)⟩ d_MF_clash_46 (fun H locs hS => ?_)
          obtain rfl := Option.some.inj et2
          exact kJ49_5 _ _ _ hS (lv_sub hl [] rfl)
        · rw [if_pos c27_6] at et2
          refine lv_aload_n hx hb d_MF_clash_30 rfl (lv_at hl 0 rfl) ?_
          obtain ⟨t5, et5, et2⟩ := bS et2
          refine r_getR C hS fl_MF_53 et5 d_MF_clash_31 ?_
          obtain ⟨t6, et6, et2⟩ := bS et2
          refine r_callVi (x := t6) C hS cv_MF_180 (c_Merge_clashSize l base D cI cZ h1 t5 et6) (o_Merge_clashSize et6) (rest := []) rfl hl.1 rfl (Nat.le_of_ble_eq_true rfl) ⟨(Nat.le_of_ble_eq_true rfl), (Nat.le_of_ble_eq_true rfl)⟩ ⟨(Nat.le_of_ble_eq_true rfl), (Nat.le_of_ble_eq_true rfl)⟩ d_MF_clash_34 (fun H locs hS => ?_)
          refine lv_goto (tgt := 49) hx hb d_MF_clash_37 (by decide) ?_
          obtain rfl := Option.some.inj et2
          exact kJ49_5 _ _ _ hS (lv_sub hl [] rfl)
      · rw [if_neg c15_4] at hM
        refine lv_bipush (v := (-2 : Int32)) hx hb d_MF_clash_18 (by decide) ?_
        obtain rfl := Option.some.inj hM
        exact r_iret C hS d_MF_clash_20
    refine lv_icmp_ne (tgt := 14) hx hb d_MF_clash_7 (by decide) (fun c7_3 => ?_) (fun c7_3 => ?_)
    · rw [if_neg c7_3] at kJ15_2
      refine lv_iconst (v := (1 : Int32)) hx hb d_MF_clash_14 (by decide) ?_
      exact kJ15_2 _ _ _ hS (lv_sub hl [0, 1, 2] rfl)
    · rw [if_pos c7_3] at kJ15_2
      refine lv_iconst (v := (0 : Int32)) hx hb d_MF_clash_10 (by decide) ?_
      refine lv_goto (tgt := 15) hx hb d_MF_clash_11 (by decide) ?_
      exact kJ15_2 _ _ _ hS (lv_sub hl [0, 1, 2] rfl)
theorem c_MF_clash (l : Launch) (base : Nat) (D : va_G) (cI cZ : ClassId) (h : Hp) (l0 : Nat) (l1 : Int32) (l2 : Int32) {r : (Int32 × Hp)} (hM : f_MF_clash h l0 l1 l2 = some r) : Ct l base D cI cZ y_MF_clash b_MF_clash 3 (some .int) 7 170 0 0 h [.ref (base + l0), .int l1, .int l2] r.2 (some (.int r.1)) :=
  ct_of (by decide) (Nat.le_of_ble_eq_true rfl) (fun p e s m below meth c ls C hS hl => t_MF_clash C hM _ _ _ hS hl)
theorem d_MF_settle_0 : decode b_MF_settle 0 = .ok (.aload_n 0, 1) := by decide +kernel
theorem d_MF_settle_1 : decode b_MF_settle 1 = .ok (.invokevirtual 130, 3) := by decide +kernel
theorem d_MF_settle_4 : decode b_MF_settle 4 = .ok (.aload_n 0, 1) := by decide +kernel
theorem d_MF_settle_5 : decode b_MF_settle 5 = .ok (.getfield 53, 3) := by decide +kernel
theorem d_MF_settle_8 : decode b_MF_settle 8 = .ok (.invokevirtual 180, 3) := by decide +kernel
theorem d_MF_settle_11 : decode b_MF_settle 11 = .ok (.ifCond .le 6, 3) := by decide +kernel
theorem d_MF_settle_14 : decode b_MF_settle 14 = .ok (.bipush (-5), 2) := by decide +kernel
theorem d_MF_settle_16 : decode b_MF_settle 16 = .ok (.ireturn, 1) := by decide +kernel
theorem d_MF_settle_17 : decode b_MF_settle 17 = .ok (.aload_n 0, 1) := by decide +kernel
theorem d_MF_settle_18 : decode b_MF_settle 18 = .ok (.getfield 53, 3) := by decide +kernel
theorem d_MF_settle_21 : decode b_MF_settle 21 = .ok (.invokevirtual 176, 3) := by decide +kernel
theorem d_MF_settle_24 : decode b_MF_settle 24 = .ok (.bipush 12, 2) := by decide +kernel
theorem d_MF_settle_26 : decode b_MF_settle 26 = .ok (.if_icmp .le 6, 3) := by decide +kernel
theorem d_MF_settle_29 : decode b_MF_settle 29 = .ok (.bipush (-4), 2) := by decide +kernel
theorem d_MF_settle_31 : decode b_MF_settle 31 = .ok (.ireturn, 1) := by decide +kernel
theorem d_MF_settle_32 : decode b_MF_settle 32 = .ok (.aload_n 0, 1) := by decide +kernel
theorem d_MF_settle_33 : decode b_MF_settle 33 = .ok (.getfield 53, 3) := by decide +kernel
theorem d_MF_settle_36 : decode b_MF_settle 36 = .ok (.aload_n 0, 1) := by decide +kernel
theorem d_MF_settle_37 : decode b_MF_settle 37 = .ok (.getfield 19, 3) := by decide +kernel
theorem d_MF_settle_40 : decode b_MF_settle 40 = .ok (.getfield 112, 3) := by decide +kernel
theorem d_MF_settle_43 : decode b_MF_settle 43 = .ok (.invokevirtual 186, 3) := by decide +kernel
theorem d_MF_settle_46 : decode b_MF_settle 46 = .ok (.aload_n 0, 1) := by decide +kernel
theorem d_MF_settle_47 : decode b_MF_settle 47 = .ok (.getfield 19, 3) := by decide +kernel
theorem d_MF_settle_50 : decode b_MF_settle 50 = .ok (.getfield 189, 3) := by decide +kernel
theorem d_MF_settle_53 : decode b_MF_settle 53 = .ok (.aload_n 0, 1) := by decide +kernel
theorem d_MF_settle_54 : decode b_MF_settle 54 = .ok (.getfield 19, 3) := by decide +kernel
theorem d_MF_settle_57 : decode b_MF_settle 57 = .ok (.getfield 112, 3) := by decide +kernel
theorem d_MF_settle_60 : decode b_MF_settle 60 = .ok (.invokevirtual 116, 3) := by decide +kernel
theorem d_MF_settle_63 : decode b_MF_settle 63 = .ok (.aload_n 0, 1) := by decide +kernel
theorem d_MF_settle_64 : decode b_MF_settle 64 = .ok (.getfield 19, 3) := by decide +kernel
theorem d_MF_settle_67 : decode b_MF_settle 67 = .ok (.getfield 192, 3) := by decide +kernel
theorem d_MF_settle_70 : decode b_MF_settle 70 = .ok (.aload_n 0, 1) := by decide +kernel
theorem d_MF_settle_71 : decode b_MF_settle 71 = .ok (.getfield 19, 3) := by decide +kernel
theorem d_MF_settle_74 : decode b_MF_settle 74 = .ok (.getfield 112, 3) := by decide +kernel
theorem d_MF_settle_77 : decode b_MF_settle 77 = .ok (.invokevirtual 116, 3) := by decide +kernel
theorem d_MF_settle_80 : decode b_MF_settle 80 = .ok (.aload_n 0, 1) := by decide +kernel
theorem d_MF_settle_81 : decode b_MF_settle 81 = .ok (.iconst 0, 1) := by decide +kernel
theorem d_MF_settle_82 : decode b_MF_settle 82 = .ok (.putfield 57, 3) := by decide +kernel
theorem d_MF_settle_85 : decode b_MF_settle 85 = .ok (.aload_n 0, 1) := by decide +kernel
theorem d_MF_settle_86 : decode b_MF_settle 86 = .ok (.getfield 19, 3) := by decide +kernel
theorem d_MF_settle_89 : decode b_MF_settle 89 = .ok (.getfield 112, 3) := by decide +kernel
theorem d_MF_settle_92 : decode b_MF_settle 92 = .ok (.invokevirtual 94, 3) := by decide +kernel
theorem d_MF_settle_95 : decode b_MF_settle 95 = .ok (.ireturn, 1) := by decide +kernel
def f_MF_settle (h : Hp) (l0 : Nat) : Option (Int32 × Hp) :=
  ck h 8 l0 (
    (f_MF_refresh h l0).bind fun h1 =>
    (gR h1 8 l0 8).bind fun t2 =>
    (f_Merge_clashSize h1 t2).bind fun t3 =>
    if t3 ≤ (0 : Int32) then (
      (gR h1 8 l0 8).bind fun t4 =>
      (f_Merge_size h1 t4).bind fun t5 =>
      if t5 ≤ (12 : Int32) then (
        (gR h1 8 l0 8).bind fun t6 =>
        (gR h1 8 l0 1).bind fun t7 =>
        (gR h1 0 t7 0).bind fun t8 =>
        (f_Merge_writeTo h1 t6 t8).bind fun h9 =>
        (gR h9 8 l0 1).bind fun t10 =>
        (gR h9 0 t10 1).bind fun t11 =>
        (gR h9 8 l0 1).bind fun t12 =>
        (gR h9 0 t12 0).bind fun t13 =>
        (f_Tree_take h9 t11 t13).bind fun h14 =>
        (gR h14 8 l0 1).bind fun t15 =>
        (gR h14 0 t15 2).bind fun t16 =>
        (gR h14 8 l0 1).bind fun t17 =>
        (gR h14 0 t17 0).bind fun t18 =>
        (f_Tree_take h14 t16 t18).bind fun h19 =>
        (sI h19 8 l0 9 (0 : Int32)).bind fun h20 =>
        (gR h20 8 l0 1).bind fun t21 =>
        (gR h20 0 t21 0).bind fun t22 =>
        (f_Tree_size h20 t22).bind fun t23 =>
        some (t23, h20)
      ) else (
        some ((-4 : Int32), h1)
      )
    ) else (
      some ((-5 : Int32), h1)
    )
  )
theorem o_MF_settle {h : Hp} {l0 : Nat} {r : (Int32 × Hp)} (hM : f_MF_settle h l0 = some r) : isO h 8 l0 = true := by
  unfold f_MF_settle at hM
  exact (ck_some hM).1
set_option maxHeartbeats 4000000 in
set_option maxRecDepth 100000 in
theorem t_MF_settle {h : Hp} {l0 : Nat} {r : (Int32 × Hp)} (C : Cx base D cI cZ b_MF_settle 1 "MovedFolders" "settle" (some .int) p s m args meth c) (hM : f_MF_settle h l0 = some r) (H : Heap) (locs : List Loc) (ls : Array Slot) (hS : RS base D cI cZ s H locs h) (hl : lv_has ls 1 [(0, .ref (base + l0))]) : Wg l base D cI cZ 7 170 0 0 r.2 (some (.int r.1)) p e s m args below meth c H locs 0 0 (F0 m 0 ls []) := by
  have hx := C.1
  have hb := C.2.1
  unfold f_MF_settle at hM
  replace hM := (ck_some hM).2
  refine lv_aload_n hx hb d_MF_settle_0 rfl (lv_at hl 0 rfl) ?_
  obtain ⟨h1, eh1, hM⟩ := bS hM
  refine r_callVv C hS cv_MF_130 (c_MF_refresh l base D cI cZ h l0 eh1) (o_MF_refresh eh1) (rest := []) rfl hl.1 rfl (Nat.le_of_ble_eq_true rfl) ⟨(Nat.le_of_ble_eq_true rfl), (Nat.le_of_ble_eq_true rfl)⟩ ⟨(Nat.le_of_ble_eq_true rfl), (Nat.le_of_ble_eq_true rfl)⟩ d_MF_settle_1 (fun H locs hS => ?_)
  refine lv_aload_n hx hb d_MF_settle_4 rfl (lv_at hl 0 rfl) ?_
  obtain ⟨t2, et2, hM⟩ := bS hM
  refine r_getR C hS fl_MF_53 et2 d_MF_settle_5 ?_
  obtain ⟨t3, et3, hM⟩ := bS hM
  refine r_callVi (x := t3) C hS cv_MF_180 (c_Merge_clashSize l base D cI cZ h1 t2 et3) (o_Merge_clashSize et3) (rest := []) rfl hl.1 rfl (Nat.le_of_ble_eq_true rfl) ⟨(Nat.le_of_ble_eq_true rfl), (Nat.le_of_ble_eq_true rfl)⟩ ⟨(Nat.le_of_ble_eq_true rfl), (Nat.le_of_ble_eq_true rfl)⟩ d_MF_settle_8 (fun H locs hS => ?_)
  refine lv_if_le (tgt := 17) hx hb d_MF_settle_11 (by decide) (fun c11_1 => ?_) (fun c11_1 => ?_)
  · rw [if_pos c11_1] at hM
    refine lv_aload_n hx hb d_MF_settle_17 rfl (lv_at hl 0 rfl) ?_
    obtain ⟨t4, et4, hM⟩ := bS hM
    refine r_getR C hS fl_MF_53 et4 d_MF_settle_18 ?_
    obtain ⟨t5, et5, hM⟩ := bS hM
    refine r_callVi (x := t5) C hS cv_MF_176 (c_Merge_size l base D cI cZ h1 t4 et5) (o_Merge_size et5) (rest := []) rfl hl.1 rfl (Nat.le_of_ble_eq_true rfl) ⟨(Nat.le_of_ble_eq_true rfl), (Nat.le_of_ble_eq_true rfl)⟩ ⟨(Nat.le_of_ble_eq_true rfl), (Nat.le_of_ble_eq_true rfl)⟩ d_MF_settle_21 (fun H locs hS => ?_)
    refine lv_bipush (v := (12 : Int32)) hx hb d_MF_settle_24 (by decide) ?_
    refine lv_icmp_le (tgt := 32) hx hb d_MF_settle_26 (by decide) (fun c26_2 => ?_) (fun c26_2 => ?_)
    · rw [if_pos c26_2] at hM
      refine lv_aload_n hx hb d_MF_settle_32 rfl (lv_at hl 0 rfl) ?_
      obtain ⟨t6, et6, hM⟩ := bS hM
      refine r_getR C hS fl_MF_53 et6 d_MF_settle_33 ?_
      refine lv_aload_n hx hb d_MF_settle_36 rfl (lv_at hl 0 rfl) ?_
      obtain ⟨t7, et7, hM⟩ := bS hM
      refine r_getR C hS fl_MF_19 et7 d_MF_settle_37 ?_
      obtain ⟨t8, et8, hM⟩ := bS hM
      refine r_getR C hS fl_MF_112 et8 d_MF_settle_40 ?_
      obtain ⟨h9, eh9, hM⟩ := bS hM
      refine r_callVv C hS cv_MF_186 (c_Merge_writeTo l base D cI cZ h1 t6 t8 eh9) (o_Merge_writeTo eh9) (rest := []) rfl hl.1 rfl (Nat.le_of_ble_eq_true rfl) ⟨(Nat.le_of_ble_eq_true rfl), (Nat.le_of_ble_eq_true rfl)⟩ ⟨(Nat.le_of_ble_eq_true rfl), (Nat.le_of_ble_eq_true rfl)⟩ d_MF_settle_43 (fun H locs hS => ?_)
      refine lv_aload_n hx hb d_MF_settle_46 rfl (lv_at hl 0 rfl) ?_
      obtain ⟨t10, et10, hM⟩ := bS hM
      refine r_getR C hS fl_MF_19 et10 d_MF_settle_47 ?_
      obtain ⟨t11, et11, hM⟩ := bS hM
      refine r_getR C hS fl_MF_189 et11 d_MF_settle_50 ?_
      refine lv_aload_n hx hb d_MF_settle_53 rfl (lv_at hl 0 rfl) ?_
      obtain ⟨t12, et12, hM⟩ := bS hM
      refine r_getR C hS fl_MF_19 et12 d_MF_settle_54 ?_
      obtain ⟨t13, et13, hM⟩ := bS hM
      refine r_getR C hS fl_MF_112 et13 d_MF_settle_57 ?_
      obtain ⟨h14, eh14, hM⟩ := bS hM
      refine r_callVv C hS cv_MF_116 (c_Tree_take l base D cI cZ h9 t11 t13 eh14) (o_Tree_take eh14) (rest := []) rfl hl.1 rfl (Nat.le_of_ble_eq_true rfl) ⟨(Nat.le_of_ble_eq_true rfl), (Nat.le_of_ble_eq_true rfl)⟩ ⟨(Nat.le_of_ble_eq_true rfl), (Nat.le_of_ble_eq_true rfl)⟩ d_MF_settle_60 (fun H locs hS => ?_)
      refine lv_aload_n hx hb d_MF_settle_63 rfl (lv_at hl 0 rfl) ?_
      obtain ⟨t15, et15, hM⟩ := bS hM
      refine r_getR C hS fl_MF_19 et15 d_MF_settle_64 ?_
      obtain ⟨t16, et16, hM⟩ := bS hM
      refine r_getR C hS fl_MF_192 et16 d_MF_settle_67 ?_
      refine lv_aload_n hx hb d_MF_settle_70 rfl (lv_at hl 0 rfl) ?_
      obtain ⟨t17, et17, hM⟩ := bS hM
      refine r_getR C hS fl_MF_19 et17 d_MF_settle_71 ?_
      obtain ⟨t18, et18, hM⟩ := bS hM
      refine r_getR C hS fl_MF_112 et18 d_MF_settle_74 ?_
      obtain ⟨h19, eh19, hM⟩ := bS hM
      refine r_callVv C hS cv_MF_116 (c_Tree_take l base D cI cZ h14 t16 t18 eh19) (o_Tree_take eh19) (rest := []) rfl hl.1 rfl (Nat.le_of_ble_eq_true rfl) ⟨(Nat.le_of_ble_eq_true rfl), (Nat.le_of_ble_eq_true rfl)⟩ ⟨(Nat.le_of_ble_eq_true rfl), (Nat.le_of_ble_eq_true rfl)⟩ d_MF_settle_77 (fun H locs hS => ?_)
      refine lv_aload_n hx hb d_MF_settle_80 rfl (lv_at hl 0 rfl) ?_
      refine lv_iconst (v := (0 : Int32)) hx hb d_MF_settle_81 (by decide) ?_
      obtain ⟨h20, eh20, hM⟩ := bS hM
      refine r_putZ C hS fp_MF_57 eh20 rfl rfl d_MF_settle_82 (fun H locs hS => ?_)
      refine lv_aload_n hx hb d_MF_settle_85 rfl (lv_at hl 0 rfl) ?_
      obtain ⟨t21, et21, hM⟩ := bS hM
      refine r_getR C hS fl_MF_19 et21 d_MF_settle_86 ?_
      obtain ⟨t22, et22, hM⟩ := bS hM
      refine r_getR C hS fl_MF_112 et22 d_MF_settle_89 ?_
      obtain ⟨t23, et23, hM⟩ := bS hM
      refine r_callVi (x := t23) C hS cv_MF_94 (c_Tree_size l base D cI cZ h20 t22 et23) (o_Tree_size et23) (rest := []) rfl hl.1 rfl (Nat.le_of_ble_eq_true rfl) ⟨(Nat.le_of_ble_eq_true rfl), (Nat.le_of_ble_eq_true rfl)⟩ ⟨(Nat.le_of_ble_eq_true rfl), (Nat.le_of_ble_eq_true rfl)⟩ d_MF_settle_92 (fun H locs hS => ?_)
      obtain rfl := Option.some.inj hM
      exact r_iret C hS d_MF_settle_95
    · rw [if_neg c26_2] at hM
      refine lv_bipush (v := (-4 : Int32)) hx hb d_MF_settle_29 (by decide) ?_
      obtain rfl := Option.some.inj hM
      exact r_iret C hS d_MF_settle_31
  · rw [if_neg c11_1] at hM
    refine lv_bipush (v := (-5 : Int32)) hx hb d_MF_settle_14 (by decide) ?_
    obtain rfl := Option.some.inj hM
    exact r_iret C hS d_MF_settle_16
theorem c_MF_settle (l : Launch) (base : Nat) (D : va_G) (cI cZ : ClassId) (h : Hp) (l0 : Nat) {r : (Int32 × Hp)} (hM : f_MF_settle h l0 = some r) : Ct l base D cI cZ y_MF_settle b_MF_settle 1 (some .int) 7 170 0 0 h [.ref (base + l0)] r.2 (some (.int r.1)) :=
  ct_of (by decide) (Nat.le_of_ble_eq_true rfl) (fun p e s m below meth c ls C hS hl => t_MF_settle C hM _ _ _ hS hl)
theorem d_MF_exchange_0 : decode b_MF_exchange 0 = .ok (.aload_n 0, 1) := by decide +kernel
theorem d_MF_exchange_1 : decode b_MF_exchange 1 = .ok (.getfield 19, 3) := by decide +kernel
theorem d_MF_exchange_4 : decode b_MF_exchange 4 = .ok (.getfield 189, 3) := by decide +kernel
theorem d_MF_exchange_7 : decode b_MF_exchange 7 = .ok (.astore_n 1, 1) := by decide +kernel
theorem d_MF_exchange_8 : decode b_MF_exchange 8 = .ok (.aload_n 0, 1) := by decide +kernel
theorem d_MF_exchange_9 : decode b_MF_exchange 9 = .ok (.getfield 19, 3) := by decide +kernel
theorem d_MF_exchange_12 : decode b_MF_exchange 12 = .ok (.aload_n 0, 1) := by decide +kernel
theorem d_MF_exchange_13 : decode b_MF_exchange 13 = .ok (.getfield 19, 3) := by decide +kernel
theorem d_MF_exchange_16 : decode b_MF_exchange 16 = .ok (.getfield 192, 3) := by decide +kernel
theorem d_MF_exchange_19 : decode b_MF_exchange 19 = .ok (.putfield 189, 3) := by decide +kernel
theorem d_MF_exchange_22 : decode b_MF_exchange 22 = .ok (.aload_n 0, 1) := by decide +kernel
theorem d_MF_exchange_23 : decode b_MF_exchange 23 = .ok (.getfield 19, 3) := by decide +kernel
theorem d_MF_exchange_26 : decode b_MF_exchange 26 = .ok (.aload_n 1, 1) := by decide +kernel
theorem d_MF_exchange_27 : decode b_MF_exchange 27 = .ok (.putfield 192, 3) := by decide +kernel
theorem d_MF_exchange_30 : decode b_MF_exchange 30 = .ok (.aload_n 0, 1) := by decide +kernel
theorem d_MF_exchange_31 : decode b_MF_exchange 31 = .ok (.iconst 0, 1) := by decide +kernel
theorem d_MF_exchange_32 : decode b_MF_exchange 32 = .ok (.putfield 57, 3) := by decide +kernel
theorem d_MF_exchange_35 : decode b_MF_exchange 35 = .ok (.iconst 1, 1) := by decide +kernel
theorem d_MF_exchange_36 : decode b_MF_exchange 36 = .ok (.ireturn, 1) := by decide +kernel
def f_MF_exchange (h : Hp) (l0 : Nat) : Option (Int32 × Hp) :=
  ck h 8 l0 (
    (gR h 8 l0 1).bind fun t1 =>
    (gR h 0 t1 1).bind fun t2 =>
    (gR h 8 l0 1).bind fun t3 =>
    (gR h 8 l0 1).bind fun t4 =>
    (gR h 0 t4 2).bind fun t5 =>
    (sR h 0 t3 1 t5).bind fun h6 =>
    (gR h6 8 l0 1).bind fun t7 =>
    (sR h6 0 t7 2 t2).bind fun h8 =>
    (sI h8 8 l0 9 (0 : Int32)).bind fun h9 =>
    some ((1 : Int32), h9)
  )
theorem o_MF_exchange {h : Hp} {l0 : Nat} {r : (Int32 × Hp)} (hM : f_MF_exchange h l0 = some r) : isO h 8 l0 = true := by
  unfold f_MF_exchange at hM
  exact (ck_some hM).1
set_option maxHeartbeats 4000000 in
set_option maxRecDepth 100000 in
theorem t_MF_exchange {h : Hp} {l0 : Nat} {r : (Int32 × Hp)} (C : Cx base D cI cZ b_MF_exchange 2 "MovedFolders" "exchange" (some .int) p s m args meth c) (hM : f_MF_exchange h l0 = some r) (H : Heap) (locs : List Loc) (ls : Array Slot) (hS : RS base D cI cZ s H locs h) (hl : lv_has ls 2 [(0, .ref (base + l0))]) : Wg l base D cI cZ 0 0 0 0 r.2 (some (.int r.1)) p e s m args below meth c H locs 0 0 (F0 m 0 ls []) := by
  have hx := C.1
  have hb := C.2.1
  unfold f_MF_exchange at hM
  replace hM := (ck_some hM).2
  refine lv_aload_n hx hb d_MF_exchange_0 rfl (lv_at hl 0 rfl) ?_
  obtain ⟨t1, et1, hM⟩ := bS hM
  refine r_getR C hS fl_MF_19 et1 d_MF_exchange_1 ?_
  obtain ⟨t2, et2, hM⟩ := bS hM
  refine r_getR C hS fl_MF_189 et2 d_MF_exchange_4 ?_
  refine lv_astore_n (lv' := [(1, .ref (base + t2)), (0, .ref (base + l0))]) hx hb d_MF_exchange_7 rfl hl (by decide) rfl (fun ls hl => ?_)
  refine lv_aload_n hx hb d_MF_exchange_8 rfl (lv_at hl 1 rfl) ?_
  obtain ⟨t3, et3, hM⟩ := bS hM
  refine r_getR C hS fl_MF_19 et3 d_MF_exchange_9 ?_
  refine lv_aload_n hx hb d_MF_exchange_12 rfl (lv_at hl 1 rfl) ?_
  obtain ⟨t4, et4, hM⟩ := bS hM
  refine r_getR C hS fl_MF_19 et4 d_MF_exchange_13 ?_
  obtain ⟨t5, et5, hM⟩ := bS hM
  refine r_getR C hS fl_MF_192 et5 d_MF_exchange_16 ?_
  obtain ⟨h6, eh6, hM⟩ := bS hM
  refine r_putR C hS fp_MF_189 eh6 rfl rfl d_MF_exchange_19 (fun H locs hS => ?_)
  refine lv_aload_n hx hb d_MF_exchange_22 rfl (lv_at hl 1 rfl) ?_
  obtain ⟨t7, et7, hM⟩ := bS hM
  refine r_getR C hS fl_MF_19 et7 d_MF_exchange_23 ?_
  refine lv_aload_n hx hb d_MF_exchange_26 rfl (lv_at hl 0 rfl) ?_
  obtain ⟨h8, eh8, hM⟩ := bS hM
  refine r_putR C hS fp_MF_192 eh8 rfl rfl d_MF_exchange_27 (fun H locs hS => ?_)
  refine lv_aload_n hx hb d_MF_exchange_30 rfl (lv_at hl 1 rfl) ?_
  refine lv_iconst (v := (0 : Int32)) hx hb d_MF_exchange_31 (by decide) ?_
  obtain ⟨h9, eh9, hM⟩ := bS hM
  refine r_putZ C hS fp_MF_57 eh9 rfl rfl d_MF_exchange_32 (fun H locs hS => ?_)
  refine lv_iconst (v := (1 : Int32)) hx hb d_MF_exchange_35 (by decide) ?_
  obtain rfl := Option.some.inj hM
  exact r_iret C hS d_MF_exchange_36
theorem c_MF_exchange (l : Launch) (base : Nat) (D : va_G) (cI cZ : ClassId) (h : Hp) (l0 : Nat) {r : (Int32 × Hp)} (hM : f_MF_exchange h l0 = some r) : Ct l base D cI cZ y_MF_exchange b_MF_exchange 2 (some .int) 0 0 0 0 h [.ref (base + l0)] r.2 (some (.int r.1)) :=
  ct_of (by decide) (Nat.le_of_ble_eq_true rfl) (fun p e s m below meth c ls C hS hl => t_MF_exchange C hM _ _ _ hS hl)
theorem d_MF_imageOf_0 : decode b_MF_imageOf 0 = .ok (.iload_n 1, 1) := by decide +kernel
theorem d_MF_imageOf_1 : decode b_MF_imageOf 1 = .ok (.ifCond .ne 10, 3) := by decide +kernel
theorem d_MF_imageOf_4 : decode b_MF_imageOf 4 = .ok (.aload_n 0, 1) := by decide +kernel
theorem d_MF_imageOf_5 : decode b_MF_imageOf 5 = .ok (.getfield 23, 3) := by decide +kernel
theorem d_MF_imageOf_8 : decode b_MF_imageOf 8 = .ok (.goto 7, 3) := by decide +kernel
theorem d_MF_imageOf_11 : decode b_MF_imageOf 11 = .ok (.aload_n 0, 1) := by decide +kernel
theorem d_MF_imageOf_12 : decode b_MF_imageOf 12 = .ok (.getfield 26, 3) := by decide +kernel
theorem d_MF_imageOf_15 : decode b_MF_imageOf 15 = .ok (.areturn, 1) := by decide +kernel
def f_MF_imageOf (h : Hp) (l0 : Nat) (l1 : Int32) : Option Nat :=
  ck h 8 l0 (
    (
      if l1 = (0 : Int32) then (
        (gR h 8 l0 2).bind fun t3 =>
        some t3
      ) else (
        (gR h 8 l0 3).bind fun t2 =>
        some t2
      )
    ).bind fun t1 =>
    some t1
  )
theorem o_MF_imageOf {h : Hp} {l0 : Nat} {l1 : Int32} {r : Nat} (hM : f_MF_imageOf h l0 l1 = some r) : isO h 8 l0 = true := by
  unfold f_MF_imageOf at hM
  exact (ck_some hM).1
set_option maxHeartbeats 4000000 in
set_option maxRecDepth 100000 in
theorem t_MF_imageOf {h : Hp} {l0 : Nat} {l1 : Int32} {r : Nat} (C : Cx base D cI cZ b_MF_imageOf 2 "MovedFolders" "imageOf" (some (.object "MovedFolders$Held")) p s m args meth c) (hM : f_MF_imageOf h l0 l1 = some r) (H : Heap) (locs : List Loc) (ls : Array Slot) (hS : RS base D cI cZ s H locs h) (hl : lv_has ls 2 [(0, .ref (base + l0)), (1, .int l1)]) : Wg l base D cI cZ 0 0 0 0 h (some (.ref (base + r))) p e s m args below meth c H locs 0 0 (F0 m 0 ls []) := by
  have hx := C.1
  have hb := C.2.1
  unfold f_MF_imageOf at hM
  replace hM := (ck_some hM).2
  refine lv_iload_n hx hb d_MF_imageOf_0 rfl (lv_at hl 1 rfl) ?_
  obtain ⟨t1, et1, hM⟩ := bS hM
  have kJ15_1 : ∀ (H : Heap) (locs : List Loc) (ls : Array Slot), RS base D cI cZ s H locs h → lv_has ls 2 [] → Wg l base D cI cZ 0 0 0 0 h (some (.ref (base + r))) p e s m args below meth c H locs 0 0 (F0 m 15 ls [.ref (base + t1)]) := by
    intro H locs ls hS hl
    obtain rfl := Option.some.inj hM
    exact r_aret C hS d_MF_imageOf_15
  refine lv_if_ne (tgt := 11) hx hb d_MF_imageOf_1 (by decide) (fun c1_2 => ?_) (fun c1_2 => ?_)
  · rw [if_neg c1_2] at et1
    refine lv_aload_n hx hb d_MF_imageOf_11 rfl (lv_at hl 0 rfl) ?_
    obtain ⟨t2, et2, et1⟩ := bS et1
    refine r_getR C hS fl_MF_26 et2 d_MF_imageOf_12 ?_
    obtain rfl := Option.some.inj et1
    exact kJ15_1 _ _ _ hS (lv_sub hl [] rfl)
  · rw [if_pos c1_2] at et1
    refine lv_aload_n hx hb d_MF_imageOf_4 rfl (lv_at hl 0 rfl) ?_
    obtain ⟨t3, et3, et1⟩ := bS et1
    refine r_getR C hS fl_MF_23 et3 d_MF_imageOf_5 ?_
    refine lv_goto (tgt := 15) hx hb d_MF_imageOf_8 (by decide) ?_
    obtain rfl := Option.some.inj et1
    exact kJ15_1 _ _ _ hS (lv_sub hl [] rfl)
theorem c_MF_imageOf (l : Launch) (base : Nat) (D : va_G) (cI cZ : ClassId) (h : Hp) (l0 : Nat) (l1 : Int32) {r : Nat} (hM : f_MF_imageOf h l0 l1 = some r) : Ct l base D cI cZ y_MF_imageOf b_MF_imageOf 2 (some (.object "MovedFolders$Held")) 0 0 0 0 h [.ref (base + l0), .int l1] h (some (.ref (base + r))) :=
  ct_of (by decide) (Nat.le_of_ble_eq_true rfl) (fun p e s m below meth c ls C hS hl => t_MF_imageOf C hM _ _ _ hS hl)
theorem d_MF_image_0 : decode b_MF_image 0 = .ok (.iload_n 1, 1) := by decide +kernel
theorem d_MF_image_1 : decode b_MF_image 1 = .ok (.ifCond .lt 8, 3) := by decide +kernel
theorem d_MF_image_4 : decode b_MF_image 4 = .ok (.iload_n 1, 1) := by decide +kernel
theorem d_MF_image_5 : decode b_MF_image 5 = .ok (.iconst 2, 1) := by decide +kernel
theorem d_MF_image_6 : decode b_MF_image 6 = .ok (.if_icmp .lt 6, 3) := by decide +kernel
theorem d_MF_image_9 : decode b_MF_image 9 = .ok (.bipush (-2), 2) := by decide +kernel
theorem d_MF_image_11 : decode b_MF_image 11 = .ok (.ireturn, 1) := by decide +kernel
theorem d_MF_image_12 : decode b_MF_image 12 = .ok (.aload_n 0, 1) := by decide +kernel
theorem d_MF_image_13 : decode b_MF_image 13 = .ok (.iload_n 1, 1) := by decide +kernel
theorem d_MF_image_14 : decode b_MF_image 14 = .ok (.invokevirtual 195, 3) := by decide +kernel
theorem d_MF_image_17 : decode b_MF_image 17 = .ok (.aload_n 0, 1) := by decide +kernel
theorem d_MF_image_18 : decode b_MF_image 18 = .ok (.getfield 19, 3) := by decide +kernel
theorem d_MF_image_21 : decode b_MF_image 21 = .ok (.invokevirtual 199, 3) := by decide +kernel
theorem d_MF_image_24 : decode b_MF_image 24 = .ok (.aload_n 0, 1) := by decide +kernel
theorem d_MF_image_25 : decode b_MF_image 25 = .ok (.getfield 29, 3) := by decide +kernel
theorem d_MF_image_28 : decode b_MF_image 28 = .ok (.iload_n 1, 1) := by decide +kernel
theorem d_MF_image_29 : decode b_MF_image 29 = .ok (.iconst 1, 1) := by decide +kernel
theorem d_MF_image_30 : decode b_MF_image 30 = .ok (.bastore, 1) := by decide +kernel
theorem d_MF_image_31 : decode b_MF_image 31 = .ok (.iconst 1, 1) := by decide +kernel
theorem d_MF_image_32 : decode b_MF_image 32 = .ok (.ireturn, 1) := by decide +kernel
def f_MF_image (h : Hp) (l0 : Nat) (l1 : Int32) : Option (Int32 × Hp) :=
  ck h 8 l0 (
    if l1 < (0 : Int32) then (
      some ((-2 : Int32), h)
    ) else (
      if l1 < (2 : Int32) then (
        (f_MF_imageOf h l0 l1).bind fun t1 =>
        (gR h 8 l0 1).bind fun t2 =>
        (f_Held_take h t1 t2).bind fun h3 =>
        (gR h3 8 l0 4).bind fun t4 =>
        (sZ h3 t4 l1 (1 : Int32)).bind fun h5 =>
        some ((1 : Int32), h5)
      ) else (
        some ((-2 : Int32), h)
      )
    )
  )
theorem o_MF_image {h : Hp} {l0 : Nat} {l1 : Int32} {r : (Int32 × Hp)} (hM : f_MF_image h l0 l1 = some r) : isO h 8 l0 = true := by
  unfold f_MF_image at hM
  exact (ck_some hM).1
set_option maxHeartbeats 4000000 in
set_option maxRecDepth 100000 in
theorem t_MF_image {h : Hp} {l0 : Nat} {l1 : Int32} {r : (Int32 × Hp)} (C : Cx base D cI cZ b_MF_image 2 "MovedFolders" "image" (some .int) p s m args meth c) (hM : f_MF_image h l0 l1 = some r) (H : Heap) (locs : List Loc) (ls : Array Slot) (hS : RS base D cI cZ s H locs h) (hl : lv_has ls 2 [(0, .ref (base + l0)), (1, .int l1)]) : Wg l base D cI cZ 2 43 0 0 r.2 (some (.int r.1)) p e s m args below meth c H locs 0 0 (F0 m 0 ls []) := by
  have hx := C.1
  have hb := C.2.1
  unfold f_MF_image at hM
  replace hM := (ck_some hM).2
  refine lv_iload_n hx hb d_MF_image_0 rfl (lv_at hl 1 rfl) ?_
  refine lv_if_lt (tgt := 9) hx hb d_MF_image_1 (by decide) (fun c1_1 => ?_) (fun c1_1 => ?_)
  · rw [if_pos c1_1] at hM
    refine lv_bipush (v := (-2 : Int32)) hx hb d_MF_image_9 (by decide) ?_
    obtain rfl := Option.some.inj hM
    exact r_iret C hS d_MF_image_11
  · rw [if_neg c1_1] at hM
    refine lv_iload_n hx hb d_MF_image_4 rfl (lv_at hl 1 rfl) ?_
    refine lv_iconst (v := (2 : Int32)) hx hb d_MF_image_5 (by decide) ?_
    refine lv_icmp_lt (tgt := 12) hx hb d_MF_image_6 (by decide) (fun c6_2 => ?_) (fun c6_2 => ?_)
    · rw [if_pos c6_2] at hM
      refine lv_aload_n hx hb d_MF_image_12 rfl (lv_at hl 0 rfl) ?_
      refine lv_iload_n hx hb d_MF_image_13 rfl (lv_at hl 1 rfl) ?_
      obtain ⟨t1, et1, hM⟩ := bS hM
      refine r_callVr (x := t1) C hS cv_MF_195 (c_MF_imageOf l base D cI cZ h l0 l1 et1) (o_MF_imageOf et1) (rest := []) rfl hl.1 rfl (Nat.le_of_ble_eq_true rfl) ⟨(Nat.le_of_ble_eq_true rfl), (Nat.le_of_ble_eq_true rfl)⟩ ⟨(Nat.le_of_ble_eq_true rfl), (Nat.le_of_ble_eq_true rfl)⟩ d_MF_image_14 (fun H locs hS => ?_)
      refine lv_aload_n hx hb d_MF_image_17 rfl (lv_at hl 0 rfl) ?_
      obtain ⟨t2, et2, hM⟩ := bS hM
      refine r_getR C hS fl_MF_19 et2 d_MF_image_18 ?_
      obtain ⟨h3, eh3, hM⟩ := bS hM
      refine r_callVv C hS cv_MF_199 (c_Held_take l base D cI cZ h t1 t2 eh3) (o_Held_take eh3) (rest := []) rfl hl.1 rfl (Nat.le_of_ble_eq_true rfl) ⟨(Nat.le_of_ble_eq_true rfl), (Nat.le_of_ble_eq_true rfl)⟩ ⟨(Nat.le_of_ble_eq_true rfl), (Nat.le_of_ble_eq_true rfl)⟩ d_MF_image_21 (fun H locs hS => ?_)
      refine lv_aload_n hx hb d_MF_image_24 rfl (lv_at hl 0 rfl) ?_
      obtain ⟨t4, et4, hM⟩ := bS hM
      refine r_getR C hS fl_MF_29 et4 d_MF_image_25 ?_
      refine lv_iload_n hx hb d_MF_image_28 rfl (lv_at hl 1 rfl) ?_
      refine lv_iconst (v := (1 : Int32)) hx hb d_MF_image_29 (by decide) ?_
      obtain ⟨h5, eh5, hM⟩ := bS hM
      refine r_zast C hS eh5 d_MF_image_30 (fun H locs hS => ?_)
      refine lv_iconst (v := (1 : Int32)) hx hb d_MF_image_31 (by decide) ?_
      obtain rfl := Option.some.inj hM
      exact r_iret C hS d_MF_image_32
    · rw [if_neg c6_2] at hM
      refine lv_bipush (v := (-2 : Int32)) hx hb d_MF_image_9 (by decide) ?_
      obtain rfl := Option.some.inj hM
      exact r_iret C hS d_MF_image_11
theorem c_MF_image (l : Launch) (base : Nat) (D : va_G) (cI cZ : ClassId) (h : Hp) (l0 : Nat) (l1 : Int32) {r : (Int32 × Hp)} (hM : f_MF_image h l0 l1 = some r) : Ct l base D cI cZ y_MF_image b_MF_image 2 (some .int) 2 43 0 0 h [.ref (base + l0), .int l1] r.2 (some (.int r.1)) :=
  ct_of (by decide) (Nat.le_of_ble_eq_true rfl) (fun p e s m below meth c ls C hS hl => t_MF_image C hM _ _ _ hS hl)
theorem d_MF_restore_0 : decode b_MF_restore 0 = .ok (.iload_n 1, 1) := by decide +kernel
theorem d_MF_restore_1 : decode b_MF_restore 1 = .ok (.ifCond .lt 8, 3) := by decide +kernel
theorem d_MF_restore_4 : decode b_MF_restore 4 = .ok (.iload_n 1, 1) := by decide +kernel
theorem d_MF_restore_5 : decode b_MF_restore 5 = .ok (.iconst 2, 1) := by decide +kernel
theorem d_MF_restore_6 : decode b_MF_restore 6 = .ok (.if_icmp .lt 6, 3) := by decide +kernel
theorem d_MF_restore_9 : decode b_MF_restore 9 = .ok (.bipush (-2), 2) := by decide +kernel
theorem d_MF_restore_11 : decode b_MF_restore 11 = .ok (.ireturn, 1) := by decide +kernel
theorem d_MF_restore_12 : decode b_MF_restore 12 = .ok (.aload_n 0, 1) := by decide +kernel
theorem d_MF_restore_13 : decode b_MF_restore 13 = .ok (.getfield 29, 3) := by decide +kernel
theorem d_MF_restore_16 : decode b_MF_restore 16 = .ok (.iload_n 1, 1) := by decide +kernel
theorem d_MF_restore_17 : decode b_MF_restore 17 = .ok (.baload, 1) := by decide +kernel
theorem d_MF_restore_18 : decode b_MF_restore 18 = .ok (.ifCond .ne 6, 3) := by decide +kernel
theorem d_MF_restore_21 : decode b_MF_restore 21 = .ok (.bipush (-3), 2) := by decide +kernel
theorem d_MF_restore_23 : decode b_MF_restore 23 = .ok (.ireturn, 1) := by decide +kernel
theorem d_MF_restore_24 : decode b_MF_restore 24 = .ok (.aload_n 0, 1) := by decide +kernel
theorem d_MF_restore_25 : decode b_MF_restore 25 = .ok (.getfield 19, 3) := by decide +kernel
theorem d_MF_restore_28 : decode b_MF_restore 28 = .ok (.aload_n 0, 1) := by decide +kernel
theorem d_MF_restore_29 : decode b_MF_restore 29 = .ok (.iload_n 1, 1) := by decide +kernel
theorem d_MF_restore_30 : decode b_MF_restore 30 = .ok (.invokevirtual 195, 3) := by decide +kernel
theorem d_MF_restore_33 : decode b_MF_restore 33 = .ok (.invokevirtual 199, 3) := by decide +kernel
theorem d_MF_restore_36 : decode b_MF_restore 36 = .ok (.aload_n 0, 1) := by decide +kernel
theorem d_MF_restore_37 : decode b_MF_restore 37 = .ok (.iconst 0, 1) := by decide +kernel
theorem d_MF_restore_38 : decode b_MF_restore 38 = .ok (.putfield 57, 3) := by decide +kernel
theorem d_MF_restore_41 : decode b_MF_restore 41 = .ok (.iconst 1, 1) := by decide +kernel
theorem d_MF_restore_42 : decode b_MF_restore 42 = .ok (.ireturn, 1) := by decide +kernel
def f_MF_restore (h : Hp) (l0 : Nat) (l1 : Int32) : Option (Int32 × Hp) :=
  ck h 8 l0 (
    if l1 < (0 : Int32) then (
      some ((-2 : Int32), h)
    ) else (
      if l1 < (2 : Int32) then (
        (gR h 8 l0 4).bind fun t1 =>
        (gA h true t1 l1).bind fun t2 =>
        if t2 = (0 : Int32) then (
          some ((-3 : Int32), h)
        ) else (
          (gR h 8 l0 1).bind fun t3 =>
          (f_MF_imageOf h l0 l1).bind fun t4 =>
          (f_Held_take h t3 t4).bind fun h5 =>
          (sI h5 8 l0 9 (0 : Int32)).bind fun h6 =>
          some ((1 : Int32), h6)
        )
      ) else (
        some ((-2 : Int32), h)
      )
    )
  )
theorem o_MF_restore {h : Hp} {l0 : Nat} {l1 : Int32} {r : (Int32 × Hp)} (hM : f_MF_restore h l0 l1 = some r) : isO h 8 l0 = true := by
  unfold f_MF_restore at hM
  exact (ck_some hM).1
set_option maxHeartbeats 4000000 in
set_option maxRecDepth 100000 in
theorem t_MF_restore {h : Hp} {l0 : Nat} {l1 : Int32} {r : (Int32 × Hp)} (C : Cx base D cI cZ b_MF_restore 2 "MovedFolders" "restore" (some .int) p s m args meth c) (hM : f_MF_restore h l0 l1 = some r) (H : Heap) (locs : List Loc) (ls : Array Slot) (hS : RS base D cI cZ s H locs h) (hl : lv_has ls 2 [(0, .ref (base + l0)), (1, .int l1)]) : Wg l base D cI cZ 2 43 0 0 r.2 (some (.int r.1)) p e s m args below meth c H locs 0 0 (F0 m 0 ls []) := by
  have hx := C.1
  have hb := C.2.1
  unfold f_MF_restore at hM
  replace hM := (ck_some hM).2
  refine lv_iload_n hx hb d_MF_restore_0 rfl (lv_at hl 1 rfl) ?_
  refine lv_if_lt (tgt := 9) hx hb d_MF_restore_1 (by decide) (fun c1_1 => ?_) (fun c1_1 => ?_)
  · rw [if_pos c1_1] at hM
    refine lv_bipush (v := (-2 : Int32)) hx hb d_MF_restore_9 (by decide) ?_
    obtain rfl := Option.some.inj hM
    exact r_iret C hS d_MF_restore_11
  · rw [if_neg c1_1] at hM
    refine lv_iload_n hx hb d_MF_restore_4 rfl (lv_at hl 1 rfl) ?_
    refine lv_iconst (v := (2 : Int32)) hx hb d_MF_restore_5 (by decide) ?_
    refine lv_icmp_lt (tgt := 12) hx hb d_MF_restore_6 (by decide) (fun c6_2 => ?_) (fun c6_2 => ?_)
    · rw [if_pos c6_2] at hM
      refine lv_aload_n hx hb d_MF_restore_12 rfl (lv_at hl 0 rfl) ?_
      obtain ⟨t1, et1, hM⟩ := bS hM
      refine r_getR C hS fl_MF_29 et1 d_MF_restore_13 ?_
      refine lv_iload_n hx hb d_MF_restore_16 rfl (lv_at hl 1 rfl) ?_
      obtain ⟨t2, et2, hM⟩ := bS hM
      refine r_zald C hS et2 d_MF_restore_17 ?_
      refine lv_if_ne (tgt := 24) hx hb d_MF_restore_18 (by decide) (fun c18_3 => ?_) (fun c18_3 => ?_)
      · rw [if_neg c18_3] at hM
        refine lv_aload_n hx hb d_MF_restore_24 rfl (lv_at hl 0 rfl) ?_
        obtain ⟨t3, et3, hM⟩ := bS hM
        refine r_getR C hS fl_MF_19 et3 d_MF_restore_25 ?_
        refine lv_aload_n hx hb d_MF_restore_28 rfl (lv_at hl 0 rfl) ?_
        refine lv_iload_n hx hb d_MF_restore_29 rfl (lv_at hl 1 rfl) ?_
        obtain ⟨t4, et4, hM⟩ := bS hM
        refine r_callVr (x := t4) C hS cv_MF_195 (c_MF_imageOf l base D cI cZ h l0 l1 et4) (o_MF_imageOf et4) (rest := [.ref (base + t3)]) rfl hl.1 rfl (Nat.le_of_ble_eq_true rfl) ⟨(Nat.le_of_ble_eq_true rfl), (Nat.le_of_ble_eq_true rfl)⟩ ⟨(Nat.le_of_ble_eq_true rfl), (Nat.le_of_ble_eq_true rfl)⟩ d_MF_restore_30 (fun H locs hS => ?_)
        obtain ⟨h5, eh5, hM⟩ := bS hM
        refine r_callVv C hS cv_MF_199 (c_Held_take l base D cI cZ h t3 t4 eh5) (o_Held_take eh5) (rest := []) rfl hl.1 rfl (Nat.le_of_ble_eq_true rfl) ⟨(Nat.le_of_ble_eq_true rfl), (Nat.le_of_ble_eq_true rfl)⟩ ⟨(Nat.le_of_ble_eq_true rfl), (Nat.le_of_ble_eq_true rfl)⟩ d_MF_restore_33 (fun H locs hS => ?_)
        refine lv_aload_n hx hb d_MF_restore_36 rfl (lv_at hl 0 rfl) ?_
        refine lv_iconst (v := (0 : Int32)) hx hb d_MF_restore_37 (by decide) ?_
        obtain ⟨h6, eh6, hM⟩ := bS hM
        refine r_putZ C hS fp_MF_57 eh6 rfl rfl d_MF_restore_38 (fun H locs hS => ?_)
        refine lv_iconst (v := (1 : Int32)) hx hb d_MF_restore_41 (by decide) ?_
        obtain rfl := Option.some.inj hM
        exact r_iret C hS d_MF_restore_42
      · rw [if_pos c18_3] at hM
        refine lv_bipush (v := (-3 : Int32)) hx hb d_MF_restore_21 (by decide) ?_
        obtain rfl := Option.some.inj hM
        exact r_iret C hS d_MF_restore_23
    · rw [if_neg c6_2] at hM
      refine lv_bipush (v := (-2 : Int32)) hx hb d_MF_restore_9 (by decide) ?_
      obtain rfl := Option.some.inj hM
      exact r_iret C hS d_MF_restore_11
theorem c_MF_restore (l : Launch) (base : Nat) (D : va_G) (cI cZ : ClassId) (h : Hp) (l0 : Nat) (l1 : Int32) {r : (Int32 × Hp)} (hM : f_MF_restore h l0 l1 = some r) : Ct l base D cI cZ y_MF_restore b_MF_restore 2 (some .int) 2 43 0 0 h [.ref (base + l0), .int l1] r.2 (some (.int r.1)) :=
  ct_of (by decide) (Nat.le_of_ble_eq_true rfl) (fun p e s m below meth c ls C hS hl => t_MF_restore C hM _ _ _ hS hl)
theorem d_MF_told_0 : decode b_MF_told 0 = .ok (.iload_n 1, 1) := by decide +kernel
theorem d_MF_told_1 : decode b_MF_told 1 = .ok (.bipush 20, 2) := by decide +kernel
theorem d_MF_told_3 : decode b_MF_told 3 = .ok (.if_icmp .lt 7, 3) := by decide +kernel
theorem d_MF_told_6 : decode b_MF_told 6 = .ok (.aload_n 0, 1) := by decide +kernel
theorem d_MF_told_7 : decode b_MF_told 7 = .ok (.invokevirtual 130, 3) := by decide +kernel
theorem d_MF_told_10 : decode b_MF_told 10 = .ok (.iload_n 1, 1) := by decide +kernel
theorem d_MF_told_11 : decode b_MF_told 11 = .ok (.tableswitch 328 0 42 #[185, 193, 328, 328, 328, 328, 328, 328, 328, 328, 201, 212, 223, 328, 328, 328, 328, 328, 328, 328, 328, 234, 252, 328, 328, 328, 328, 328, 328, 328, 328, 270, 288, 328, 328, 328, 328, 328, 328, 328, 328, 306, 317], 185) := by decide +kernel
theorem d_MF_told_196 : decode b_MF_told 196 = .ok (.aload_n 0, 1) := by decide +kernel
theorem d_MF_told_197 : decode b_MF_told 197 = .ok (.getfield 12, 3) := by decide +kernel
theorem d_MF_told_200 : decode b_MF_told 200 = .ok (.invokevirtual 65, 3) := by decide +kernel
theorem d_MF_told_203 : decode b_MF_told 203 = .ok (.ireturn, 1) := by decide +kernel
theorem d_MF_told_204 : decode b_MF_told 204 = .ok (.aload_n 0, 1) := by decide +kernel
theorem d_MF_told_205 : decode b_MF_told 205 = .ok (.getfield 19, 3) := by decide +kernel
theorem d_MF_told_208 : decode b_MF_told 208 = .ok (.getfield 120, 3) := by decide +kernel
theorem d_MF_told_211 : decode b_MF_told 211 = .ok (.ireturn, 1) := by decide +kernel
theorem d_MF_told_212 : decode b_MF_told 212 = .ok (.aload_n 0, 1) := by decide +kernel
theorem d_MF_told_213 : decode b_MF_told 213 = .ok (.getfield 19, 3) := by decide +kernel
theorem d_MF_told_216 : decode b_MF_told 216 = .ok (.getfield 112, 3) := by decide +kernel
theorem d_MF_told_219 : decode b_MF_told 219 = .ok (.invokevirtual 94, 3) := by decide +kernel
theorem d_MF_told_222 : decode b_MF_told 222 = .ok (.ireturn, 1) := by decide +kernel
theorem d_MF_told_223 : decode b_MF_told 223 = .ok (.aload_n 0, 1) := by decide +kernel
theorem d_MF_told_224 : decode b_MF_told 224 = .ok (.getfield 19, 3) := by decide +kernel
theorem d_MF_told_227 : decode b_MF_told 227 = .ok (.getfield 189, 3) := by decide +kernel
theorem d_MF_told_230 : decode b_MF_told 230 = .ok (.invokevirtual 94, 3) := by decide +kernel
theorem d_MF_told_233 : decode b_MF_told 233 = .ok (.ireturn, 1) := by decide +kernel
theorem d_MF_told_234 : decode b_MF_told 234 = .ok (.aload_n 0, 1) := by decide +kernel
theorem d_MF_told_235 : decode b_MF_told 235 = .ok (.getfield 19, 3) := by decide +kernel
theorem d_MF_told_238 : decode b_MF_told 238 = .ok (.getfield 192, 3) := by decide +kernel
theorem d_MF_told_241 : decode b_MF_told 241 = .ok (.invokevirtual 94, 3) := by decide +kernel
theorem d_MF_told_244 : decode b_MF_told 244 = .ok (.ireturn, 1) := by decide +kernel
theorem d_MF_told_245 : decode b_MF_told 245 = .ok (.aload_n 0, 1) := by decide +kernel
theorem d_MF_told_246 : decode b_MF_told 246 = .ok (.getfield 36, 3) := by decide +kernel
theorem d_MF_told_249 : decode b_MF_told 249 = .ok (.getfield 137, 3) := by decide +kernel
theorem d_MF_told_252 : decode b_MF_told 252 = .ok (.aload_n 0, 1) := by decide +kernel
theorem d_MF_told_253 : decode b_MF_told 253 = .ok (.getfield 19, 3) := by decide +kernel
theorem d_MF_told_256 : decode b_MF_told 256 = .ok (.getfield 112, 3) := by decide +kernel
theorem d_MF_told_259 : decode b_MF_told 259 = .ok (.invokevirtual 202, 3) := by decide +kernel
theorem d_MF_told_262 : decode b_MF_told 262 = .ok (.ireturn, 1) := by decide +kernel
theorem d_MF_told_263 : decode b_MF_told 263 = .ok (.aload_n 0, 1) := by decide +kernel
theorem d_MF_told_264 : decode b_MF_told 264 = .ok (.getfield 40, 3) := by decide +kernel
theorem d_MF_told_267 : decode b_MF_told 267 = .ok (.getfield 137, 3) := by decide +kernel
theorem d_MF_told_270 : decode b_MF_told 270 = .ok (.aload_n 0, 1) := by decide +kernel
theorem d_MF_told_271 : decode b_MF_told 271 = .ok (.getfield 19, 3) := by decide +kernel
theorem d_MF_told_274 : decode b_MF_told 274 = .ok (.getfield 112, 3) := by decide +kernel
theorem d_MF_told_277 : decode b_MF_told 277 = .ok (.invokevirtual 202, 3) := by decide +kernel
theorem d_MF_told_280 : decode b_MF_told 280 = .ok (.ireturn, 1) := by decide +kernel
theorem d_MF_told_281 : decode b_MF_told 281 = .ok (.aload_n 0, 1) := by decide +kernel
theorem d_MF_told_282 : decode b_MF_told 282 = .ok (.getfield 36, 3) := by decide +kernel
theorem d_MF_told_285 : decode b_MF_told 285 = .ok (.getfield 137, 3) := by decide +kernel
theorem d_MF_told_288 : decode b_MF_told 288 = .ok (.aload_n 0, 1) := by decide +kernel
theorem d_MF_told_289 : decode b_MF_told 289 = .ok (.getfield 19, 3) := by decide +kernel
theorem d_MF_told_292 : decode b_MF_told 292 = .ok (.getfield 189, 3) := by decide +kernel
theorem d_MF_told_295 : decode b_MF_told 295 = .ok (.invokevirtual 206, 3) := by decide +kernel
theorem d_MF_told_298 : decode b_MF_told 298 = .ok (.ireturn, 1) := by decide +kernel
theorem d_MF_told_299 : decode b_MF_told 299 = .ok (.aload_n 0, 1) := by decide +kernel
theorem d_MF_told_300 : decode b_MF_told 300 = .ok (.getfield 40, 3) := by decide +kernel
theorem d_MF_told_303 : decode b_MF_told 303 = .ok (.getfield 137, 3) := by decide +kernel
theorem d_MF_told_306 : decode b_MF_told 306 = .ok (.aload_n 0, 1) := by decide +kernel
theorem d_MF_told_307 : decode b_MF_told 307 = .ok (.getfield 19, 3) := by decide +kernel
theorem d_MF_told_310 : decode b_MF_told 310 = .ok (.getfield 192, 3) := by decide +kernel
theorem d_MF_told_313 : decode b_MF_told 313 = .ok (.invokevirtual 206, 3) := by decide +kernel
theorem d_MF_told_316 : decode b_MF_told 316 = .ok (.ireturn, 1) := by decide +kernel
theorem d_MF_told_317 : decode b_MF_told 317 = .ok (.aload_n 0, 1) := by decide +kernel
theorem d_MF_told_318 : decode b_MF_told 318 = .ok (.getfield 36, 3) := by decide +kernel
theorem d_MF_told_321 : decode b_MF_told 321 = .ok (.getfield 161, 3) := by decide +kernel
theorem d_MF_told_324 : decode b_MF_told 324 = .ok (.invokevirtual 209, 3) := by decide +kernel
theorem d_MF_told_327 : decode b_MF_told 327 = .ok (.ireturn, 1) := by decide +kernel
theorem d_MF_told_328 : decode b_MF_told 328 = .ok (.aload_n 0, 1) := by decide +kernel
theorem d_MF_told_329 : decode b_MF_told 329 = .ok (.getfield 40, 3) := by decide +kernel
theorem d_MF_told_332 : decode b_MF_told 332 = .ok (.getfield 161, 3) := by decide +kernel
theorem d_MF_told_335 : decode b_MF_told 335 = .ok (.invokevirtual 209, 3) := by decide +kernel
theorem d_MF_told_338 : decode b_MF_told 338 = .ok (.ireturn, 1) := by decide +kernel
theorem d_MF_told_339 : decode b_MF_told 339 = .ok (.bipush (-2), 2) := by decide +kernel
theorem d_MF_told_341 : decode b_MF_told 341 = .ok (.ireturn, 1) := by decide +kernel
def f_MF_told (h : Hp) (l0 : Nat) (l1 : Int32) : Option (Int32 × Hp) :=
  ck h 8 l0 (
    (
      if l1 < (20 : Int32) then (
        some h
      ) else (
        (f_MF_refresh h l0).bind fun h2 =>
        some h2
      )
    ).bind fun h1 =>
    if l1 = (0 : Int32) then (
      (gR h1 8 l0 0).bind fun t3 =>
      (f_Pad_size h1 t3).bind fun t4 =>
      some (t4, h1)
    ) else (
      if l1 = (1 : Int32) then (
        (gR h1 8 l0 1).bind fun t5 =>
        (gI h1 0 t5 3).bind fun t6 =>
        some (t6, h1)
      ) else (
        if l1 = (10 : Int32) then (
          (gR h1 8 l0 1).bind fun t7 =>
          (gR h1 0 t7 0).bind fun t8 =>
          (f_Tree_size h1 t8).bind fun t9 =>
          some (t9, h1)
        ) else (
          if l1 = (11 : Int32) then (
            (gR h1 8 l0 1).bind fun t10 =>
            (gR h1 0 t10 1).bind fun t11 =>
            (f_Tree_size h1 t11).bind fun t12 =>
            some (t12, h1)
          ) else (
            if l1 = (12 : Int32) then (
              (gR h1 8 l0 1).bind fun t13 =>
              (gR h1 0 t13 2).bind fun t14 =>
              (f_Tree_size h1 t14).bind fun t15 =>
              some (t15, h1)
            ) else (
              if l1 = (21 : Int32) then (
                (gR h1 8 l0 5).bind fun t16 =>
                (gR h1 6 t16 0).bind fun t17 =>
                (gR h1 8 l0 1).bind fun t18 =>
                (gR h1 0 t18 0).bind fun t19 =>
                (f_Pairs_countGone h1 t17 t19).bind fun t20 =>
                some (t20, h1)
              ) else (
                if l1 = (22 : Int32) then (
                  (gR h1 8 l0 6).bind fun t21 =>
                  (gR h1 6 t21 0).bind fun t22 =>
                  (gR h1 8 l0 1).bind fun t23 =>
                  (gR h1 0 t23 0).bind fun t24 =>
                  (f_Pairs_countGone h1 t22 t24).bind fun t25 =>
                  some (t25, h1)
                ) else (
                  if l1 = (31 : Int32) then (
                    (gR h1 8 l0 5).bind fun t26 =>
                    (gR h1 6 t26 0).bind fun t27 =>
                    (gR h1 8 l0 1).bind fun t28 =>
                    (gR h1 0 t28 1).bind fun t29 =>
                    (f_Pairs_countNew h1 t27 t29).bind fun t30 =>
                    some (t30, h1)
                  ) else (
                    if l1 = (32 : Int32) then (
                      (gR h1 8 l0 6).bind fun t31 =>
                      (gR h1 6 t31 0).bind fun t32 =>
                      (gR h1 8 l0 1).bind fun t33 =>
                      (gR h1 0 t33 2).bind fun t34 =>
                      (f_Pairs_countNew h1 t32 t34).bind fun t35 =>
                      some (t35, h1)
                    ) else (
                      if l1 = (41 : Int32) then (
                        (gR h1 8 l0 5).bind fun t36 =>
                        (gR h1 6 t36 1).bind fun t37 =>
                        (f_Moves_size h1 t37).bind fun t38 =>
                        some (t38, h1)
                      ) else (
                        if l1 = (42 : Int32) then (
                          (gR h1 8 l0 6).bind fun t39 =>
                          (gR h1 6 t39 1).bind fun t40 =>
                          (f_Moves_size h1 t40).bind fun t41 =>
                          some (t41, h1)
                        ) else (
                          some ((-2 : Int32), h1)
    )))))))))))
  )
theorem o_MF_told {h : Hp} {l0 : Nat} {l1 : Int32} {r : (Int32 × Hp)} (hM : f_MF_told h l0 l1 = some r) : isO h 8 l0 = true := by
  unfold f_MF_told at hM
  exact (ck_some hM).1
set_option maxHeartbeats 4000000 in
set_option maxRecDepth 100000 in
theorem t_MF_told {h : Hp} {l0 : Nat} {l1 : Int32} {r : (Int32 × Hp)} (C : Cx base D cI cZ b_MF_told 2 "MovedFolders" "told" (some .int) p s m args meth c) (hM : f_MF_told h l0 l1 = some r) (H : Heap) (locs : List Loc) (ls : Array Slot) (hS : RS base D cI cZ s H locs h) (hl : lv_has ls 2 [(0, .ref (base + l0)), (1, .int l1)]) : Wg l base D cI cZ 7 170 0 0 r.2 (some (.int r.1)) p e s m args below meth c H locs 0 0 (F0 m 0 ls []) := by
  have hx := C.1
  have hb := C.2.1
  unfold f_MF_told at hM
  replace hM := (ck_some hM).2
  refine lv_iload_n hx hb d_MF_told_0 rfl (lv_at hl 1 rfl) ?_
  refine lv_bipush (v := (20 : Int32)) hx hb d_MF_told_1 (by decide) ?_
  obtain ⟨h1, eh1, hM⟩ := bS hM
  have kJ10_1 : ∀ (H : Heap) (locs : List Loc) (ls : Array Slot), RS base D cI cZ s H locs h1 → lv_has ls 2 [(0, .ref (base + l0)), (1, .int l1)] → Wg l base D cI cZ 7 170 0 0 r.2 (some (.int r.1)) p e s m args below meth c H locs 0 0 (F0 m 10 ls []) := by
    intro H locs ls hS hl
    refine lv_iload_n hx hb d_MF_told_10 rfl (lv_at hl 1 rfl) ?_
    by_cases c11_3 : l1 = (0 : Int32)
    · rw [if_pos c11_3] at hM
      refine lv_tableIn (off := 185) (tgt := 196) hx hb d_MF_told_11 (by rw [c11_3]; decide) (by rw [c11_3]; decide) (by rw [c11_3]; rfl) (by decide) ?_
      refine lv_aload_n hx hb d_MF_told_196 rfl (lv_at hl 0 rfl) ?_
      obtain ⟨t3, et3, hM⟩ := bS hM
      refine r_getR C hS fl_MF_12 et3 d_MF_told_197 ?_
      obtain ⟨t4, et4, hM⟩ := bS hM
      refine r_callVi (x := t4) C hS cv_MF_65 (c_Pad_size l base D cI cZ h1 t3 et4) (o_Pad_size et4) (rest := []) rfl hl.1 rfl (Nat.le_of_ble_eq_true rfl) ⟨(Nat.le_of_ble_eq_true rfl), (Nat.le_of_ble_eq_true rfl)⟩ ⟨(Nat.le_of_ble_eq_true rfl), (Nat.le_of_ble_eq_true rfl)⟩ d_MF_told_200 (fun H locs hS => ?_)
      obtain rfl := Option.some.inj hM
      exact r_iret C hS d_MF_told_203
    rw [if_neg c11_3] at hM
    by_cases c11_4 : l1 = (1 : Int32)
    · rw [if_pos c11_4] at hM
      refine lv_tableIn (off := 193) (tgt := 204) hx hb d_MF_told_11 (by rw [c11_4]; decide) (by rw [c11_4]; decide) (by rw [c11_4]; rfl) (by decide) ?_
      refine lv_aload_n hx hb d_MF_told_204 rfl (lv_at hl 0 rfl) ?_
      obtain ⟨t5, et5, hM⟩ := bS hM
      refine r_getR C hS fl_MF_19 et5 d_MF_told_205 ?_
      obtain ⟨t6, et6, hM⟩ := bS hM
      refine r_getI C hS fl_MF_120 et6 d_MF_told_208 ?_
      obtain rfl := Option.some.inj hM
      exact r_iret C hS d_MF_told_211
    rw [if_neg c11_4] at hM
    by_cases c11_5 : l1 = (10 : Int32)
    · rw [if_pos c11_5] at hM
      refine lv_tableIn (off := 201) (tgt := 212) hx hb d_MF_told_11 (by rw [c11_5]; decide) (by rw [c11_5]; decide) (by rw [c11_5]; rfl) (by decide) ?_
      refine lv_aload_n hx hb d_MF_told_212 rfl (lv_at hl 0 rfl) ?_
      obtain ⟨t7, et7, hM⟩ := bS hM
      refine r_getR C hS fl_MF_19 et7 d_MF_told_213 ?_
      obtain ⟨t8, et8, hM⟩ := bS hM
      refine r_getR C hS fl_MF_112 et8 d_MF_told_216 ?_
      obtain ⟨t9, et9, hM⟩ := bS hM
      refine r_callVi (x := t9) C hS cv_MF_94 (c_Tree_size l base D cI cZ h1 t8 et9) (o_Tree_size et9) (rest := []) rfl hl.1 rfl (Nat.le_of_ble_eq_true rfl) ⟨(Nat.le_of_ble_eq_true rfl), (Nat.le_of_ble_eq_true rfl)⟩ ⟨(Nat.le_of_ble_eq_true rfl), (Nat.le_of_ble_eq_true rfl)⟩ d_MF_told_219 (fun H locs hS => ?_)
      obtain rfl := Option.some.inj hM
      exact r_iret C hS d_MF_told_222
    rw [if_neg c11_5] at hM
    by_cases c11_6 : l1 = (11 : Int32)
    · rw [if_pos c11_6] at hM
      refine lv_tableIn (off := 212) (tgt := 223) hx hb d_MF_told_11 (by rw [c11_6]; decide) (by rw [c11_6]; decide) (by rw [c11_6]; rfl) (by decide) ?_
      refine lv_aload_n hx hb d_MF_told_223 rfl (lv_at hl 0 rfl) ?_
      obtain ⟨t10, et10, hM⟩ := bS hM
      refine r_getR C hS fl_MF_19 et10 d_MF_told_224 ?_
      obtain ⟨t11, et11, hM⟩ := bS hM
      refine r_getR C hS fl_MF_189 et11 d_MF_told_227 ?_
      obtain ⟨t12, et12, hM⟩ := bS hM
      refine r_callVi (x := t12) C hS cv_MF_94 (c_Tree_size l base D cI cZ h1 t11 et12) (o_Tree_size et12) (rest := []) rfl hl.1 rfl (Nat.le_of_ble_eq_true rfl) ⟨(Nat.le_of_ble_eq_true rfl), (Nat.le_of_ble_eq_true rfl)⟩ ⟨(Nat.le_of_ble_eq_true rfl), (Nat.le_of_ble_eq_true rfl)⟩ d_MF_told_230 (fun H locs hS => ?_)
      obtain rfl := Option.some.inj hM
      exact r_iret C hS d_MF_told_233
    rw [if_neg c11_6] at hM
    by_cases c11_7 : l1 = (12 : Int32)
    · rw [if_pos c11_7] at hM
      refine lv_tableIn (off := 223) (tgt := 234) hx hb d_MF_told_11 (by rw [c11_7]; decide) (by rw [c11_7]; decide) (by rw [c11_7]; rfl) (by decide) ?_
      refine lv_aload_n hx hb d_MF_told_234 rfl (lv_at hl 0 rfl) ?_
      obtain ⟨t13, et13, hM⟩ := bS hM
      refine r_getR C hS fl_MF_19 et13 d_MF_told_235 ?_
      obtain ⟨t14, et14, hM⟩ := bS hM
      refine r_getR C hS fl_MF_192 et14 d_MF_told_238 ?_
      obtain ⟨t15, et15, hM⟩ := bS hM
      refine r_callVi (x := t15) C hS cv_MF_94 (c_Tree_size l base D cI cZ h1 t14 et15) (o_Tree_size et15) (rest := []) rfl hl.1 rfl (Nat.le_of_ble_eq_true rfl) ⟨(Nat.le_of_ble_eq_true rfl), (Nat.le_of_ble_eq_true rfl)⟩ ⟨(Nat.le_of_ble_eq_true rfl), (Nat.le_of_ble_eq_true rfl)⟩ d_MF_told_241 (fun H locs hS => ?_)
      obtain rfl := Option.some.inj hM
      exact r_iret C hS d_MF_told_244
    rw [if_neg c11_7] at hM
    by_cases c11_8 : l1 = (21 : Int32)
    · rw [if_pos c11_8] at hM
      refine lv_tableIn (off := 234) (tgt := 245) hx hb d_MF_told_11 (by rw [c11_8]; decide) (by rw [c11_8]; decide) (by rw [c11_8]; rfl) (by decide) ?_
      refine lv_aload_n hx hb d_MF_told_245 rfl (lv_at hl 0 rfl) ?_
      obtain ⟨t16, et16, hM⟩ := bS hM
      refine r_getR C hS fl_MF_36 et16 d_MF_told_246 ?_
      obtain ⟨t17, et17, hM⟩ := bS hM
      refine r_getR C hS fl_MF_137 et17 d_MF_told_249 ?_
      refine lv_aload_n hx hb d_MF_told_252 rfl (lv_at hl 0 rfl) ?_
      obtain ⟨t18, et18, hM⟩ := bS hM
      refine r_getR C hS fl_MF_19 et18 d_MF_told_253 ?_
      obtain ⟨t19, et19, hM⟩ := bS hM
      refine r_getR C hS fl_MF_112 et19 d_MF_told_256 ?_
      obtain ⟨t20, et20, hM⟩ := bS hM
      refine r_callVi (x := t20) C hS cv_MF_202 (c_Pairs_countGone l base D cI cZ h1 t17 t19 et20) (o_Pairs_countGone et20) (rest := []) rfl hl.1 rfl (Nat.le_of_ble_eq_true rfl) ⟨(Nat.le_of_ble_eq_true rfl), (Nat.le_of_ble_eq_true rfl)⟩ ⟨(Nat.le_of_ble_eq_true rfl), (Nat.le_of_ble_eq_true rfl)⟩ d_MF_told_259 (fun H locs hS => ?_)
      obtain rfl := Option.some.inj hM
      exact r_iret C hS d_MF_told_262
    rw [if_neg c11_8] at hM
    by_cases c11_9 : l1 = (22 : Int32)
    · rw [if_pos c11_9] at hM
      refine lv_tableIn (off := 252) (tgt := 263) hx hb d_MF_told_11 (by rw [c11_9]; decide) (by rw [c11_9]; decide) (by rw [c11_9]; rfl) (by decide) ?_
      refine lv_aload_n hx hb d_MF_told_263 rfl (lv_at hl 0 rfl) ?_
      obtain ⟨t21, et21, hM⟩ := bS hM
      refine r_getR C hS fl_MF_40 et21 d_MF_told_264 ?_
      obtain ⟨t22, et22, hM⟩ := bS hM
      refine r_getR C hS fl_MF_137 et22 d_MF_told_267 ?_
      refine lv_aload_n hx hb d_MF_told_270 rfl (lv_at hl 0 rfl) ?_
      obtain ⟨t23, et23, hM⟩ := bS hM
      refine r_getR C hS fl_MF_19 et23 d_MF_told_271 ?_
      obtain ⟨t24, et24, hM⟩ := bS hM
      refine r_getR C hS fl_MF_112 et24 d_MF_told_274 ?_
      obtain ⟨t25, et25, hM⟩ := bS hM
      refine r_callVi (x := t25) C hS cv_MF_202 (c_Pairs_countGone l base D cI cZ h1 t22 t24 et25) (o_Pairs_countGone et25) (rest := []) rfl hl.1 rfl (Nat.le_of_ble_eq_true rfl) ⟨(Nat.le_of_ble_eq_true rfl), (Nat.le_of_ble_eq_true rfl)⟩ ⟨(Nat.le_of_ble_eq_true rfl), (Nat.le_of_ble_eq_true rfl)⟩ d_MF_told_277 (fun H locs hS => ?_)
      obtain rfl := Option.some.inj hM
      exact r_iret C hS d_MF_told_280
    rw [if_neg c11_9] at hM
    by_cases c11_10 : l1 = (31 : Int32)
    · rw [if_pos c11_10] at hM
      refine lv_tableIn (off := 270) (tgt := 281) hx hb d_MF_told_11 (by rw [c11_10]; decide) (by rw [c11_10]; decide) (by rw [c11_10]; rfl) (by decide) ?_
      refine lv_aload_n hx hb d_MF_told_281 rfl (lv_at hl 0 rfl) ?_
      obtain ⟨t26, et26, hM⟩ := bS hM
      refine r_getR C hS fl_MF_36 et26 d_MF_told_282 ?_
      obtain ⟨t27, et27, hM⟩ := bS hM
      refine r_getR C hS fl_MF_137 et27 d_MF_told_285 ?_
      refine lv_aload_n hx hb d_MF_told_288 rfl (lv_at hl 0 rfl) ?_
      obtain ⟨t28, et28, hM⟩ := bS hM
      refine r_getR C hS fl_MF_19 et28 d_MF_told_289 ?_
      obtain ⟨t29, et29, hM⟩ := bS hM
      refine r_getR C hS fl_MF_189 et29 d_MF_told_292 ?_
      obtain ⟨t30, et30, hM⟩ := bS hM
      refine r_callVi (x := t30) C hS cv_MF_206 (c_Pairs_countNew l base D cI cZ h1 t27 t29 et30) (o_Pairs_countNew et30) (rest := []) rfl hl.1 rfl (Nat.le_of_ble_eq_true rfl) ⟨(Nat.le_of_ble_eq_true rfl), (Nat.le_of_ble_eq_true rfl)⟩ ⟨(Nat.le_of_ble_eq_true rfl), (Nat.le_of_ble_eq_true rfl)⟩ d_MF_told_295 (fun H locs hS => ?_)
      obtain rfl := Option.some.inj hM
      exact r_iret C hS d_MF_told_298
    rw [if_neg c11_10] at hM
    by_cases c11_11 : l1 = (32 : Int32)
    · rw [if_pos c11_11] at hM
      refine lv_tableIn (off := 288) (tgt := 299) hx hb d_MF_told_11 (by rw [c11_11]; decide) (by rw [c11_11]; decide) (by rw [c11_11]; rfl) (by decide) ?_
      refine lv_aload_n hx hb d_MF_told_299 rfl (lv_at hl 0 rfl) ?_
      obtain ⟨t31, et31, hM⟩ := bS hM
      refine r_getR C hS fl_MF_40 et31 d_MF_told_300 ?_
      obtain ⟨t32, et32, hM⟩ := bS hM
      refine r_getR C hS fl_MF_137 et32 d_MF_told_303 ?_
      refine lv_aload_n hx hb d_MF_told_306 rfl (lv_at hl 0 rfl) ?_
      obtain ⟨t33, et33, hM⟩ := bS hM
      refine r_getR C hS fl_MF_19 et33 d_MF_told_307 ?_
      obtain ⟨t34, et34, hM⟩ := bS hM
      refine r_getR C hS fl_MF_192 et34 d_MF_told_310 ?_
      obtain ⟨t35, et35, hM⟩ := bS hM
      refine r_callVi (x := t35) C hS cv_MF_206 (c_Pairs_countNew l base D cI cZ h1 t32 t34 et35) (o_Pairs_countNew et35) (rest := []) rfl hl.1 rfl (Nat.le_of_ble_eq_true rfl) ⟨(Nat.le_of_ble_eq_true rfl), (Nat.le_of_ble_eq_true rfl)⟩ ⟨(Nat.le_of_ble_eq_true rfl), (Nat.le_of_ble_eq_true rfl)⟩ d_MF_told_313 (fun H locs hS => ?_)
      obtain rfl := Option.some.inj hM
      exact r_iret C hS d_MF_told_316
    rw [if_neg c11_11] at hM
    by_cases c11_12 : l1 = (41 : Int32)
    · rw [if_pos c11_12] at hM
      refine lv_tableIn (off := 306) (tgt := 317) hx hb d_MF_told_11 (by rw [c11_12]; decide) (by rw [c11_12]; decide) (by rw [c11_12]; rfl) (by decide) ?_
      refine lv_aload_n hx hb d_MF_told_317 rfl (lv_at hl 0 rfl) ?_
      obtain ⟨t36, et36, hM⟩ := bS hM
      refine r_getR C hS fl_MF_36 et36 d_MF_told_318 ?_
      obtain ⟨t37, et37, hM⟩ := bS hM
      refine r_getR C hS fl_MF_161 et37 d_MF_told_321 ?_
      obtain ⟨t38, et38, hM⟩ := bS hM
      refine r_callVi (x := t38) C hS cv_MF_209 (c_Moves_size l base D cI cZ h1 t37 et38) (o_Moves_size et38) (rest := []) rfl hl.1 rfl (Nat.le_of_ble_eq_true rfl) ⟨(Nat.le_of_ble_eq_true rfl), (Nat.le_of_ble_eq_true rfl)⟩ ⟨(Nat.le_of_ble_eq_true rfl), (Nat.le_of_ble_eq_true rfl)⟩ d_MF_told_324 (fun H locs hS => ?_)
      obtain rfl := Option.some.inj hM
      exact r_iret C hS d_MF_told_327
    rw [if_neg c11_12] at hM
    by_cases c11_13 : l1 = (42 : Int32)
    · rw [if_pos c11_13] at hM
      refine lv_tableIn (off := 317) (tgt := 328) hx hb d_MF_told_11 (by rw [c11_13]; decide) (by rw [c11_13]; decide) (by rw [c11_13]; rfl) (by decide) ?_
      refine lv_aload_n hx hb d_MF_told_328 rfl (lv_at hl 0 rfl) ?_
      obtain ⟨t39, et39, hM⟩ := bS hM
      refine r_getR C hS fl_MF_40 et39 d_MF_told_329 ?_
      obtain ⟨t40, et40, hM⟩ := bS hM
      refine r_getR C hS fl_MF_161 et40 d_MF_told_332 ?_
      obtain ⟨t41, et41, hM⟩ := bS hM
      refine r_callVi (x := t41) C hS cv_MF_209 (c_Moves_size l base D cI cZ h1 t40 et41) (o_Moves_size et41) (rest := []) rfl hl.1 rfl (Nat.le_of_ble_eq_true rfl) ⟨(Nat.le_of_ble_eq_true rfl), (Nat.le_of_ble_eq_true rfl)⟩ ⟨(Nat.le_of_ble_eq_true rfl), (Nat.le_of_ble_eq_true rfl)⟩ d_MF_told_335 (fun H locs hS => ?_)
      obtain rfl := Option.some.inj hM
      exact r_iret C hS d_MF_told_338
    rw [if_neg c11_13] at hM
    refine r_tabD (tgt := 339) hx hb d_MF_told_11 [0, 1, 10, 11, 12, 21, 22, 31, 32, 41, 42] (List.forall_mem_cons.mpr ⟨lv_neT c11_3 rfl, (List.forall_mem_cons.mpr ⟨lv_neT c11_4 rfl, (List.forall_mem_cons.mpr ⟨lv_neT c11_5 rfl, (List.forall_mem_cons.mpr ⟨lv_neT c11_6 rfl, (List.forall_mem_cons.mpr ⟨lv_neT c11_7 rfl, (List.forall_mem_cons.mpr ⟨lv_neT c11_8 rfl, (List.forall_mem_cons.mpr ⟨lv_neT c11_9 rfl, (List.forall_mem_cons.mpr ⟨lv_neT c11_10 rfl, (List.forall_mem_cons.mpr ⟨lv_neT c11_11 rfl, (List.forall_mem_cons.mpr ⟨lv_neT c11_12 rfl, (List.forall_mem_cons.mpr ⟨lv_neT c11_13 rfl, (List.forall_mem_nil _)⟩)⟩)⟩)⟩)⟩)⟩)⟩)⟩)⟩)⟩)⟩) (by decide) (by decide) ?_
    refine lv_bipush (v := (-2 : Int32)) hx hb d_MF_told_339 (by decide) ?_
    obtain rfl := Option.some.inj hM
    exact r_iret C hS d_MF_told_341
  refine lv_icmp_lt (tgt := 10) hx hb d_MF_told_3 (by decide) (fun c3_2 => ?_) (fun c3_2 => ?_)
  · rw [if_pos c3_2] at eh1
    obtain rfl := Option.some.inj eh1
    exact kJ10_1 _ _ _ hS (lv_sub hl [0, 1] rfl)
  · rw [if_neg c3_2] at eh1
    refine lv_aload_n hx hb d_MF_told_6 rfl (lv_at hl 0 rfl) ?_
    obtain ⟨h2, eh2, eh1⟩ := bS eh1
    refine r_callVv C hS cv_MF_130 (c_MF_refresh l base D cI cZ h l0 eh2) (o_MF_refresh eh2) (rest := []) rfl hl.1 rfl (Nat.le_of_ble_eq_true rfl) ⟨(Nat.le_of_ble_eq_true rfl), (Nat.le_of_ble_eq_true rfl)⟩ ⟨(Nat.le_of_ble_eq_true rfl), (Nat.le_of_ble_eq_true rfl)⟩ d_MF_told_7 (fun H locs hS => ?_)
    obtain rfl := Option.some.inj eh1
    exact kJ10_1 _ _ _ hS (lv_sub hl [0, 1] rfl)
theorem c_MF_told (l : Launch) (base : Nat) (D : va_G) (cI cZ : ClassId) (h : Hp) (l0 : Nat) (l1 : Int32) {r : (Int32 × Hp)} (hM : f_MF_told h l0 l1 = some r) : Ct l base D cI cZ y_MF_told b_MF_told 2 (some .int) 7 170 0 0 h [.ref (base + l0), .int l1] r.2 (some (.int r.1)) :=
  ct_of (by decide) (Nat.le_of_ble_eq_true rfl) (fun p e s m below meth c ls C hS hl => t_MF_told C hM _ _ _ hS hl)
theorem d_Mo_init_0 : decode b_Mo_init 0 = .ok (.aload_n 0, 1) := by decide +kernel
theorem d_Mo_init_1 : decode b_Mo_init 1 = .ok (.invokespecial 1, 3) := by decide +kernel
theorem d_Mo_init_4 : decode b_Mo_init 4 = .ok (.aload_n 0, 1) := by decide +kernel
theorem d_Mo_init_5 : decode b_Mo_init 5 = .ok (.bipush 36, 2) := by decide +kernel
theorem d_Mo_init_7 : decode b_Mo_init 7 = .ok (.newarray .int, 2) := by decide +kernel
theorem d_Mo_init_9 : decode b_Mo_init 9 = .ok (.putfield 7, 3) := by decide +kernel
theorem d_Mo_init_12 : decode b_Mo_init 12 = .ok (.aload_n 0, 1) := by decide +kernel
theorem d_Mo_init_13 : decode b_Mo_init 13 = .ok (.bipush 36, 2) := by decide +kernel
theorem d_Mo_init_15 : decode b_Mo_init 15 = .ok (.newarray .int, 2) := by decide +kernel
theorem d_Mo_init_17 : decode b_Mo_init 17 = .ok (.putfield 13, 3) := by decide +kernel
theorem d_Mo_init_20 : decode b_Mo_init 20 = .ok (.aload_n 0, 1) := by decide +kernel
theorem d_Mo_init_21 : decode b_Mo_init 21 = .ok (.iconst 3, 1) := by decide +kernel
theorem d_Mo_init_22 : decode b_Mo_init 22 = .ok (.newarray .int, 2) := by decide +kernel
theorem d_Mo_init_24 : decode b_Mo_init 24 = .ok (.putfield 16, 3) := by decide +kernel
theorem d_Mo_init_27 : decode b_Mo_init 27 = .ok (.aload_n 0, 1) := by decide +kernel
theorem d_Mo_init_28 : decode b_Mo_init 28 = .ok (.bipush 50, 2) := by decide +kernel
theorem d_Mo_init_30 : decode b_Mo_init 30 = .ok (.putfield 19, 3) := by decide +kernel
theorem d_Mo_init_33 : decode b_Mo_init 33 = .ok (.aload_n 0, 1) := by decide +kernel
theorem d_Mo_init_34 : decode b_Mo_init 34 = .ok (.bipush 60, 2) := by decide +kernel
theorem d_Mo_init_36 : decode b_Mo_init 36 = .ok (.newarray .int, 2) := by decide +kernel
theorem d_Mo_init_38 : decode b_Mo_init 38 = .ok (.putfield 23, 3) := by decide +kernel
theorem d_Mo_init_41 : decode b_Mo_init 41 = .ok (.aload_n 0, 1) := by decide +kernel
theorem d_Mo_init_42 : decode b_Mo_init 42 = .ok (.bipush 36, 2) := by decide +kernel
theorem d_Mo_init_44 : decode b_Mo_init 44 = .ok (.newarray .int, 2) := by decide +kernel
theorem d_Mo_init_46 : decode b_Mo_init 46 = .ok (.putfield 26, 3) := by decide +kernel
theorem d_Mo_init_49 : decode b_Mo_init 49 = .ok (.aload_n 0, 1) := by decide +kernel
theorem d_Mo_init_50 : decode b_Mo_init 50 = .ok (.bipush 36, 2) := by decide +kernel
theorem d_Mo_init_52 : decode b_Mo_init 52 = .ok (.newarray .int, 2) := by decide +kernel
theorem d_Mo_init_54 : decode b_Mo_init 54 = .ok (.putfield 29, 3) := by decide +kernel
theorem d_Mo_init_57 : decode b_Mo_init 57 = .ok (.aload_n 0, 1) := by decide +kernel
theorem d_Mo_init_58 : decode b_Mo_init 58 = .ok (.bipush 36, 2) := by decide +kernel
theorem d_Mo_init_60 : decode b_Mo_init 60 = .ok (.newarray .int, 2) := by decide +kernel
theorem d_Mo_init_62 : decode b_Mo_init 62 = .ok (.putfield 32, 3) := by decide +kernel
theorem d_Mo_init_65 : decode b_Mo_init 65 = .ok (.aload_n 0, 1) := by decide +kernel
theorem d_Mo_init_66 : decode b_Mo_init 66 = .ok (.sipush 1335, 3) := by decide +kernel
theorem d_Mo_init_69 : decode b_Mo_init 69 = .ok (.newarray .int, 2) := by decide +kernel
theorem d_Mo_init_71 : decode b_Mo_init 71 = .ok (.putfield 35, 3) := by decide +kernel
theorem d_Mo_init_74 : decode b_Mo_init 74 = .ok (.aload_n 0, 1) := by decide +kernel
theorem d_Mo_init_75 : decode b_Mo_init 75 = .ok (.sipush 445, 3) := by decide +kernel
theorem d_Mo_init_78 : decode b_Mo_init 78 = .ok (.newarray .boolean, 2) := by decide +kernel
theorem d_Mo_init_80 : decode b_Mo_init 80 = .ok (.putfield 38, 3) := by decide +kernel
theorem d_Mo_init_83 : decode b_Mo_init 83 = .ok (.aload_n 0, 1) := by decide +kernel
theorem d_Mo_init_84 : decode b_Mo_init 84 = .ok (.bipush 36, 2) := by decide +kernel
theorem d_Mo_init_86 : decode b_Mo_init 86 = .ok (.newarray .int, 2) := by decide +kernel
theorem d_Mo_init_88 : decode b_Mo_init 88 = .ok (.putfield 42, 3) := by decide +kernel
theorem d_Mo_init_91 : decode b_Mo_init 91 = .ok (.aload_n 0, 1) := by decide +kernel
theorem d_Mo_init_92 : decode b_Mo_init 92 = .ok (.bipush 36, 2) := by decide +kernel
theorem d_Mo_init_94 : decode b_Mo_init 94 = .ok (.newarray .int, 2) := by decide +kernel
theorem d_Mo_init_96 : decode b_Mo_init 96 = .ok (.putfield 45, 3) := by decide +kernel
theorem d_Mo_init_99 : decode b_Mo_init 99 = .ok (.aload_n 0, 1) := by decide +kernel
theorem d_Mo_init_100 : decode b_Mo_init 100 = .ok (.bipush 36, 2) := by decide +kernel
theorem d_Mo_init_102 : decode b_Mo_init 102 = .ok (.newarray .int, 2) := by decide +kernel
theorem d_Mo_init_104 : decode b_Mo_init 104 = .ok (.putfield 48, 3) := by decide +kernel
theorem d_Mo_init_107 : decode b_Mo_init 107 = .ok (.aload_n 0, 1) := by decide +kernel
theorem d_Mo_init_108 : decode b_Mo_init 108 = .ok (.bipush 36, 2) := by decide +kernel
theorem d_Mo_init_110 : decode b_Mo_init 110 = .ok (.newarray .int, 2) := by decide +kernel
theorem d_Mo_init_112 : decode b_Mo_init 112 = .ok (.putfield 51, 3) := by decide +kernel
theorem d_Mo_init_115 : decode b_Mo_init 115 = .ok (.aload_n 0, 1) := by decide +kernel
theorem d_Mo_init_116 : decode b_Mo_init 116 = .ok (.bipush 12, 2) := by decide +kernel
theorem d_Mo_init_118 : decode b_Mo_init 118 = .ok (.newarray .boolean, 2) := by decide +kernel
theorem d_Mo_init_120 : decode b_Mo_init 120 = .ok (.putfield 54, 3) := by decide +kernel
theorem d_Mo_init_123 : decode b_Mo_init 123 = .ok (.aload_n 0, 1) := by decide +kernel
theorem d_Mo_init_124 : decode b_Mo_init 124 = .ok (.sipush 152, 3) := by decide +kernel
theorem d_Mo_init_127 : decode b_Mo_init 127 = .ok (.newarray .int, 2) := by decide +kernel
theorem d_Mo_init_129 : decode b_Mo_init 129 = .ok (.putfield 57, 3) := by decide +kernel
theorem d_Mo_init_132 : decode b_Mo_init 132 = .ok (.aload_n 0, 1) := by decide +kernel
theorem d_Mo_init_133 : decode b_Mo_init 133 = .ok (.iconst 2, 1) := by decide +kernel
theorem d_Mo_init_134 : decode b_Mo_init 134 = .ok (.newarray .boolean, 2) := by decide +kernel
theorem d_Mo_init_136 : decode b_Mo_init 136 = .ok (.putfield 60, 3) := by decide +kernel
theorem d_Mo_init_139 : decode b_Mo_init 139 = .ok (.return_, 1) := by decide +kernel
def f_Mo_init (h : Hp) (l0 : Nat) : Option Hp :=
  ck h 9 l0 (
    (sR (h ++ [.inl (false, 36, fun _ => 0)]) 9 l0 0 h.length).bind fun h1 =>
    (sR (h1 ++ [.inl (false, 36, fun _ => 0)]) 9 l0 1 h1.length).bind fun h2 =>
    (sR (h2 ++ [.inl (false, 3, fun _ => 0)]) 9 l0 2 h2.length).bind fun h3 =>
    (sI h3 9 l0 3 (50 : Int32)).bind fun h4 =>
    (sR (h4 ++ [.inl (false, 60, fun _ => 0)]) 9 l0 4 h4.length).bind fun h5 =>
    (sR (h5 ++ [.inl (false, 36, fun _ => 0)]) 9 l0 11 h5.length).bind fun h6 =>
    (sR (h6 ++ [.inl (false, 36, fun _ => 0)]) 9 l0 12 h6.length).bind fun h7 =>
    (sR (h7 ++ [.inl (false, 36, fun _ => 0)]) 9 l0 13 h7.length).bind fun h8 =>
    (sR (h8 ++ [.inl (false, 1335, fun _ => 0)]) 9 l0 14 h8.length).bind fun h9 =>
    (sR (h9 ++ [.inl (true, 445, fun _ => 0)]) 9 l0 15 h9.length).bind fun h10 =>
    (sR (h10 ++ [.inl (false, 36, fun _ => 0)]) 9 l0 16 h10.length).bind fun h11 =>
    (sR (h11 ++ [.inl (false, 36, fun _ => 0)]) 9 l0 17 h11.length).bind fun h12 =>
    (sR (h12 ++ [.inl (false, 36, fun _ => 0)]) 9 l0 18 h12.length).bind fun h13 =>
    (sR (h13 ++ [.inl (false, 36, fun _ => 0)]) 9 l0 19 h13.length).bind fun h14 =>
    (sR (h14 ++ [.inl (true, 12, fun _ => 0)]) 9 l0 22 h14.length).bind fun h15 =>
    (sR (h15 ++ [.inl (false, 152, fun _ => 0)]) 9 l0 23 h15.length).bind fun h16 =>
    (sR (h16 ++ [.inl (true, 2, fun _ => 0)]) 9 l0 24 h16.length).bind fun h17 =>
    some h17
  )
theorem o_Mo_init {h : Hp} {l0 : Nat} {r : Hp} (hM : f_Mo_init h l0 = some r) : isO h 9 l0 = true := by
  unfold f_Mo_init at hM
  exact (ck_some hM).1
set_option maxHeartbeats 4000000 in
set_option maxRecDepth 100000 in
theorem t_Mo_init {h : Hp} {l0 : Nat} {r : Hp} (C : Cx base D cI cZ b_Mo_init 1 "MovedFoldersModel" "<init>" none p s m args meth c) (hM : f_Mo_init h l0 = some r) (H : Heap) (locs : List Loc) (ls : Array Slot) (hS : RS base D cI cZ s H locs h) (hl : lv_has ls 1 [(0, .ref (base + l0))]) : Wg l base D cI cZ 1 12 16 2333 r none p e s m args below meth c H locs 0 0 (F0 m 0 ls []) := by
  have hx := C.1
  have hb := C.2.1
  unfold f_Mo_init at hM
  replace hM := (ck_some hM).2
  refine lv_aload_n hx hb d_Mo_init_0 rfl (lv_at hl 0 rfl) ?_
  refine r_obj C oi_Mo_1 hl.1 rfl ⟨(Nat.le_of_ble_eq_true rfl), (Nat.le_of_ble_eq_true rfl)⟩ d_Mo_init_1 ?_
  refine lv_aload_n hx hb d_Mo_init_4 rfl (lv_at hl 0 rfl) ?_
  refine lv_bipush (v := (36 : Int32)) hx hb d_Mo_init_5 (by decide) ?_
  refine r_newI (N := 36) C hS ac_int (by decide) (by decide) (Nat.le_of_ble_eq_true rfl) (Nat.le_of_ble_eq_true rfl) (Nat.le_of_ble_eq_true rfl) d_Mo_init_7 (fun H hS => ?_)
  obtain ⟨h1, eh1, hM⟩ := bS hM
  refine r_putF C hS fp_Mo_7 (fun q hq => by cases hq; rfl) eh1 rfl rfl d_Mo_init_9 (fun H locs hS => ?_)
  refine lv_aload_n hx hb d_Mo_init_12 rfl (lv_at hl 0 rfl) ?_
  refine lv_bipush (v := (36 : Int32)) hx hb d_Mo_init_13 (by decide) ?_
  refine r_newI (N := 36) C hS ac_int (by decide) (by decide) (Nat.le_of_ble_eq_true rfl) (Nat.le_of_ble_eq_true rfl) (Nat.le_of_ble_eq_true rfl) d_Mo_init_15 (fun H hS => ?_)
  obtain ⟨h2, eh2, hM⟩ := bS hM
  refine r_putF C hS fp_Mo_13 (fun q hq => by cases hq; rfl) eh2 rfl rfl d_Mo_init_17 (fun H locs hS => ?_)
  refine lv_aload_n hx hb d_Mo_init_20 rfl (lv_at hl 0 rfl) ?_
  refine lv_iconst (v := (3 : Int32)) hx hb d_Mo_init_21 (by decide) ?_
  refine r_newI (N := 3) C hS ac_int (by decide) (by decide) (Nat.le_of_ble_eq_true rfl) (Nat.le_of_ble_eq_true rfl) (Nat.le_of_ble_eq_true rfl) d_Mo_init_22 (fun H hS => ?_)
  obtain ⟨h3, eh3, hM⟩ := bS hM
  refine r_putF C hS fp_Mo_16 (fun q hq => by cases hq; rfl) eh3 rfl rfl d_Mo_init_24 (fun H locs hS => ?_)
  refine lv_aload_n hx hb d_Mo_init_27 rfl (lv_at hl 0 rfl) ?_
  refine lv_bipush (v := (50 : Int32)) hx hb d_Mo_init_28 (by decide) ?_
  obtain ⟨h4, eh4, hM⟩ := bS hM
  refine r_putI C hS fp_Mo_19 eh4 d_Mo_init_30 (fun H locs hS => ?_)
  refine lv_aload_n hx hb d_Mo_init_33 rfl (lv_at hl 0 rfl) ?_
  refine lv_bipush (v := (60 : Int32)) hx hb d_Mo_init_34 (by decide) ?_
  refine r_newI (N := 60) C hS ac_int (by decide) (by decide) (Nat.le_of_ble_eq_true rfl) (Nat.le_of_ble_eq_true rfl) (Nat.le_of_ble_eq_true rfl) d_Mo_init_36 (fun H hS => ?_)
  obtain ⟨h5, eh5, hM⟩ := bS hM
  refine r_putF C hS fp_Mo_23 (fun q hq => by cases hq; rfl) eh5 rfl rfl d_Mo_init_38 (fun H locs hS => ?_)
  refine lv_aload_n hx hb d_Mo_init_41 rfl (lv_at hl 0 rfl) ?_
  refine lv_bipush (v := (36 : Int32)) hx hb d_Mo_init_42 (by decide) ?_
  refine r_newI (N := 36) C hS ac_int (by decide) (by decide) (Nat.le_of_ble_eq_true rfl) (Nat.le_of_ble_eq_true rfl) (Nat.le_of_ble_eq_true rfl) d_Mo_init_44 (fun H hS => ?_)
  obtain ⟨h6, eh6, hM⟩ := bS hM
  refine r_putF C hS fp_Mo_26 (fun q hq => by cases hq; rfl) eh6 rfl rfl d_Mo_init_46 (fun H locs hS => ?_)
  refine lv_aload_n hx hb d_Mo_init_49 rfl (lv_at hl 0 rfl) ?_
  refine lv_bipush (v := (36 : Int32)) hx hb d_Mo_init_50 (by decide) ?_
  refine r_newI (N := 36) C hS ac_int (by decide) (by decide) (Nat.le_of_ble_eq_true rfl) (Nat.le_of_ble_eq_true rfl) (Nat.le_of_ble_eq_true rfl) d_Mo_init_52 (fun H hS => ?_)
  obtain ⟨h7, eh7, hM⟩ := bS hM
  refine r_putF C hS fp_Mo_29 (fun q hq => by cases hq; rfl) eh7 rfl rfl d_Mo_init_54 (fun H locs hS => ?_)
  refine lv_aload_n hx hb d_Mo_init_57 rfl (lv_at hl 0 rfl) ?_
  refine lv_bipush (v := (36 : Int32)) hx hb d_Mo_init_58 (by decide) ?_
  refine r_newI (N := 36) C hS ac_int (by decide) (by decide) (Nat.le_of_ble_eq_true rfl) (Nat.le_of_ble_eq_true rfl) (Nat.le_of_ble_eq_true rfl) d_Mo_init_60 (fun H hS => ?_)
  obtain ⟨h8, eh8, hM⟩ := bS hM
  refine r_putF C hS fp_Mo_32 (fun q hq => by cases hq; rfl) eh8 rfl rfl d_Mo_init_62 (fun H locs hS => ?_)
  refine lv_aload_n hx hb d_Mo_init_65 rfl (lv_at hl 0 rfl) ?_
  refine lv_sipush (v := (1335 : Int32)) hx hb d_Mo_init_66 (by decide) ?_
  refine r_newI (N := 1335) C hS ac_int (by decide) (by decide) (Nat.le_of_ble_eq_true rfl) (Nat.le_of_ble_eq_true rfl) (Nat.le_of_ble_eq_true rfl) d_Mo_init_69 (fun H hS => ?_)
  obtain ⟨h9, eh9, hM⟩ := bS hM
  refine r_putF C hS fp_Mo_35 (fun q hq => by cases hq; rfl) eh9 rfl rfl d_Mo_init_71 (fun H locs hS => ?_)
  refine lv_aload_n hx hb d_Mo_init_74 rfl (lv_at hl 0 rfl) ?_
  refine lv_sipush (v := (445 : Int32)) hx hb d_Mo_init_75 (by decide) ?_
  refine r_newZ (N := 445) C hS ac_boolean (by decide) (by decide) (Nat.le_of_ble_eq_true rfl) (Nat.le_of_ble_eq_true rfl) (Nat.le_of_ble_eq_true rfl) d_Mo_init_78 (fun H hS => ?_)
  obtain ⟨h10, eh10, hM⟩ := bS hM
  refine r_putF C hS fp_Mo_38 (fun q hq => by cases hq; rfl) eh10 rfl rfl d_Mo_init_80 (fun H locs hS => ?_)
  refine lv_aload_n hx hb d_Mo_init_83 rfl (lv_at hl 0 rfl) ?_
  refine lv_bipush (v := (36 : Int32)) hx hb d_Mo_init_84 (by decide) ?_
  refine r_newI (N := 36) C hS ac_int (by decide) (by decide) (Nat.le_of_ble_eq_true rfl) (Nat.le_of_ble_eq_true rfl) (Nat.le_of_ble_eq_true rfl) d_Mo_init_86 (fun H hS => ?_)
  obtain ⟨h11, eh11, hM⟩ := bS hM
  refine r_putF C hS fp_Mo_42 (fun q hq => by cases hq; rfl) eh11 rfl rfl d_Mo_init_88 (fun H locs hS => ?_)
  refine lv_aload_n hx hb d_Mo_init_91 rfl (lv_at hl 0 rfl) ?_
  refine lv_bipush (v := (36 : Int32)) hx hb d_Mo_init_92 (by decide) ?_
  refine r_newI (N := 36) C hS ac_int (by decide) (by decide) (Nat.le_of_ble_eq_true rfl) (Nat.le_of_ble_eq_true rfl) (Nat.le_of_ble_eq_true rfl) d_Mo_init_94 (fun H hS => ?_)
  obtain ⟨h12, eh12, hM⟩ := bS hM
  refine r_putF C hS fp_Mo_45 (fun q hq => by cases hq; rfl) eh12 rfl rfl d_Mo_init_96 (fun H locs hS => ?_)
  refine lv_aload_n hx hb d_Mo_init_99 rfl (lv_at hl 0 rfl) ?_
  refine lv_bipush (v := (36 : Int32)) hx hb d_Mo_init_100 (by decide) ?_
  refine r_newI (N := 36) C hS ac_int (by decide) (by decide) (Nat.le_of_ble_eq_true rfl) (Nat.le_of_ble_eq_true rfl) (Nat.le_of_ble_eq_true rfl) d_Mo_init_102 (fun H hS => ?_)
  obtain ⟨h13, eh13, hM⟩ := bS hM
  refine r_putF C hS fp_Mo_48 (fun q hq => by cases hq; rfl) eh13 rfl rfl d_Mo_init_104 (fun H locs hS => ?_)
  refine lv_aload_n hx hb d_Mo_init_107 rfl (lv_at hl 0 rfl) ?_
  refine lv_bipush (v := (36 : Int32)) hx hb d_Mo_init_108 (by decide) ?_
  refine r_newI (N := 36) C hS ac_int (by decide) (by decide) (Nat.le_of_ble_eq_true rfl) (Nat.le_of_ble_eq_true rfl) (Nat.le_of_ble_eq_true rfl) d_Mo_init_110 (fun H hS => ?_)
  obtain ⟨h14, eh14, hM⟩ := bS hM
  refine r_putF C hS fp_Mo_51 (fun q hq => by cases hq; rfl) eh14 rfl rfl d_Mo_init_112 (fun H locs hS => ?_)
  refine lv_aload_n hx hb d_Mo_init_115 rfl (lv_at hl 0 rfl) ?_
  refine lv_bipush (v := (12 : Int32)) hx hb d_Mo_init_116 (by decide) ?_
  refine r_newZ (N := 12) C hS ac_boolean (by decide) (by decide) (Nat.le_of_ble_eq_true rfl) (Nat.le_of_ble_eq_true rfl) (Nat.le_of_ble_eq_true rfl) d_Mo_init_118 (fun H hS => ?_)
  obtain ⟨h15, eh15, hM⟩ := bS hM
  refine r_putF C hS fp_Mo_54 (fun q hq => by cases hq; rfl) eh15 rfl rfl d_Mo_init_120 (fun H locs hS => ?_)
  refine lv_aload_n hx hb d_Mo_init_123 rfl (lv_at hl 0 rfl) ?_
  refine lv_sipush (v := (152 : Int32)) hx hb d_Mo_init_124 (by decide) ?_
  refine r_newI (N := 152) C hS ac_int (by decide) (by decide) (Nat.le_of_ble_eq_true rfl) (Nat.le_of_ble_eq_true rfl) (Nat.le_of_ble_eq_true rfl) d_Mo_init_127 (fun H hS => ?_)
  obtain ⟨h16, eh16, hM⟩ := bS hM
  refine r_putF C hS fp_Mo_57 (fun q hq => by cases hq; rfl) eh16 rfl rfl d_Mo_init_129 (fun H locs hS => ?_)
  refine lv_aload_n hx hb d_Mo_init_132 rfl (lv_at hl 0 rfl) ?_
  refine lv_iconst (v := (2 : Int32)) hx hb d_Mo_init_133 (by decide) ?_
  refine r_newZ (N := 2) C hS ac_boolean (by decide) (by decide) (Nat.le_of_ble_eq_true rfl) (Nat.le_of_ble_eq_true rfl) (Nat.le_of_ble_eq_true rfl) d_Mo_init_134 (fun H hS => ?_)
  obtain ⟨h17, eh17, hM⟩ := bS hM
  refine r_putF C hS fp_Mo_60 (fun q hq => by cases hq; rfl) eh17 rfl rfl d_Mo_init_136 (fun H locs hS => ?_)
  obtain rfl := Option.some.inj hM
  exact r_vret C hS d_Mo_init_139
theorem c_Mo_init (l : Launch) (base : Nat) (D : va_G) (cI cZ : ClassId) (h : Hp) (l0 : Nat) {r : Hp} (hM : f_Mo_init h l0 = some r) : Ct l base D cI cZ y_Mo_init b_Mo_init 1 none 1 12 16 2333 h [.ref (base + l0)] r none :=
  ct_of (by decide) (Nat.le_of_ble_eq_true rfl) (fun p e s m below meth c ls C hS hl => t_Mo_init C hM _ _ _ hS hl)
end MM5
