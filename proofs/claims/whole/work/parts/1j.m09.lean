section MM9
variable {l : Launch} {base : Nat} {D : va_G} {cI cZ : ClassId} {p : Program} {e : Env} {s : State} {m : MethodId} {args : Array Value} {below : List Frame} {meth : Method} {c : Code}
theorem d_Mo_contentOf_0 : decode b_Mo_contentOf 0 = .ok (.iload_n 1, 1) := by decide +kernel
theorem d_Mo_contentOf_1 : decode b_Mo_contentOf 1 = .ok (.invokestatic 138, 3) := by decide +kernel
theorem d_Mo_contentOf_4 : decode b_Mo_contentOf 4 = .ok (.istore 4, 2) := by decide +kernel
theorem d_Mo_contentOf_6 : decode b_Mo_contentOf 6 = .ok (.iload_n 2, 1) := by decide +kernel
theorem d_Mo_contentOf_7 : decode b_Mo_contentOf 7 = .ok (.iload_n 3, 1) := by decide +kernel
theorem d_Mo_contentOf_8 : decode b_Mo_contentOf 8 = .ok (.if_icmp .eq 13, 3) := by decide +kernel
theorem d_Mo_contentOf_11 : decode b_Mo_contentOf 11 = .ok (.iload_n 2, 1) := by decide +kernel
theorem d_Mo_contentOf_12 : decode b_Mo_contentOf 12 = .ok (.iload_n 1, 1) := by decide +kernel
theorem d_Mo_contentOf_13 : decode b_Mo_contentOf 13 = .ok (.if_icmp .eq 8, 3) := by decide +kernel
theorem d_Mo_contentOf_16 : decode b_Mo_contentOf 16 = .ok (.iload_n 3, 1) := by decide +kernel
theorem d_Mo_contentOf_17 : decode b_Mo_contentOf 17 = .ok (.iload_n 1, 1) := by decide +kernel
theorem d_Mo_contentOf_18 : decode b_Mo_contentOf 18 = .ok (.if_icmp .ne 7, 3) := by decide +kernel
theorem d_Mo_contentOf_21 : decode b_Mo_contentOf 21 = .ok (.iconst 1, 1) := by decide +kernel
theorem d_Mo_contentOf_22 : decode b_Mo_contentOf 22 = .ok (.goto 4, 3) := by decide +kernel
theorem d_Mo_contentOf_25 : decode b_Mo_contentOf 25 = .ok (.iconst 0, 1) := by decide +kernel
theorem d_Mo_contentOf_26 : decode b_Mo_contentOf 26 = .ok (.istore 5, 2) := by decide +kernel
theorem d_Mo_contentOf_28 : decode b_Mo_contentOf 28 = .ok (.iload 5, 2) := by decide +kernel
theorem d_Mo_contentOf_30 : decode b_Mo_contentOf 30 = .ok (.ifCond .ne 21, 3) := by decide +kernel
theorem d_Mo_contentOf_33 : decode b_Mo_contentOf 33 = .ok (.iload_n 2, 1) := by decide +kernel
theorem d_Mo_contentOf_34 : decode b_Mo_contentOf 34 = .ok (.invokestatic 138, 3) := by decide +kernel
theorem d_Mo_contentOf_37 : decode b_Mo_contentOf 37 = .ok (.iload 4, 2) := by decide +kernel
theorem d_Mo_contentOf_39 : decode b_Mo_contentOf 39 = .ok (.if_icmp .ne 12, 3) := by decide +kernel
theorem d_Mo_contentOf_42 : decode b_Mo_contentOf 42 = .ok (.iload_n 3, 1) := by decide +kernel
theorem d_Mo_contentOf_43 : decode b_Mo_contentOf 43 = .ok (.invokestatic 138, 3) := by decide +kernel
theorem d_Mo_contentOf_46 : decode b_Mo_contentOf 46 = .ok (.iload 4, 2) := by decide +kernel
theorem d_Mo_contentOf_48 : decode b_Mo_contentOf 48 = .ok (.if_icmp .eq 12, 3) := by decide +kernel
theorem d_Mo_contentOf_51 : decode b_Mo_contentOf 51 = .ok (.aload_n 0, 1) := by decide +kernel
theorem d_Mo_contentOf_52 : decode b_Mo_contentOf 52 = .ok (.iload_n 1, 1) := by decide +kernel
theorem d_Mo_contentOf_53 : decode b_Mo_contentOf 53 = .ok (.iload_n 2, 1) := by decide +kernel
theorem d_Mo_contentOf_54 : decode b_Mo_contentOf 54 = .ok (.iload_n 3, 1) := by decide +kernel
theorem d_Mo_contentOf_55 : decode b_Mo_contentOf 55 = .ok (.iconst 4, 1) := by decide +kernel
theorem d_Mo_contentOf_56 : decode b_Mo_contentOf 56 = .ok (.invokevirtual 225, 3) := by decide +kernel
theorem d_Mo_contentOf_59 : decode b_Mo_contentOf 59 = .ok (.ireturn, 1) := by decide +kernel
theorem d_Mo_contentOf_60 : decode b_Mo_contentOf 60 = .ok (.iconst 1, 1) := by decide +kernel
theorem d_Mo_contentOf_61 : decode b_Mo_contentOf 61 = .ok (.istore 6, 2) := by decide +kernel
theorem d_Mo_contentOf_63 : decode b_Mo_contentOf 63 = .ok (.iconst 1, 1) := by decide +kernel
theorem d_Mo_contentOf_64 : decode b_Mo_contentOf 64 = .ok (.istore 7, 2) := by decide +kernel
theorem d_Mo_contentOf_66 : decode b_Mo_contentOf 66 = .ok (.iconst 1, 1) := by decide +kernel
theorem d_Mo_contentOf_67 : decode b_Mo_contentOf 67 = .ok (.istore 8, 2) := by decide +kernel
theorem d_Mo_contentOf_69 : decode b_Mo_contentOf 69 = .ok (.iload 8, 2) := by decide +kernel
theorem d_Mo_contentOf_71 : decode b_Mo_contentOf 71 = .ok (.iload 4, 2) := by decide +kernel
theorem d_Mo_contentOf_73 : decode b_Mo_contentOf 73 = .ok (.if_icmp .ge 16, 3) := by decide +kernel
theorem d_Mo_contentOf_76 : decode b_Mo_contentOf 76 = .ok (.iload 7, 2) := by decide +kernel
theorem d_Mo_contentOf_78 : decode b_Mo_contentOf 78 = .ok (.bipush 10, 2) := by decide +kernel
theorem d_Mo_contentOf_80 : decode b_Mo_contentOf 80 = .ok (.imul, 1) := by decide +kernel
theorem d_Mo_contentOf_81 : decode b_Mo_contentOf 81 = .ok (.istore 7, 2) := by decide +kernel
theorem d_Mo_contentOf_83 : decode b_Mo_contentOf 83 = .ok (.iinc 8 1, 3) := by decide +kernel
theorem d_Mo_contentOf_86 : decode b_Mo_contentOf 86 = .ok (.goto (-17), 3) := by decide +kernel
theorem d_Mo_contentOf_89 : decode b_Mo_contentOf 89 = .ok (.iconst 0, 1) := by decide +kernel
theorem d_Mo_contentOf_90 : decode b_Mo_contentOf 90 = .ok (.istore 8, 2) := by decide +kernel
theorem d_Mo_contentOf_92 : decode b_Mo_contentOf 92 = .ok (.iload 8, 2) := by decide +kernel
theorem d_Mo_contentOf_94 : decode b_Mo_contentOf 94 = .ok (.iload 4, 2) := by decide +kernel
theorem d_Mo_contentOf_96 : decode b_Mo_contentOf 96 = .ok (.if_icmp .ge 50, 3) := by decide +kernel
theorem d_Mo_contentOf_99 : decode b_Mo_contentOf 99 = .ok (.bipush 10, 2) := by decide +kernel
theorem d_Mo_contentOf_101 : decode b_Mo_contentOf 101 = .ok (.iload 6, 2) := by decide +kernel
theorem d_Mo_contentOf_103 : decode b_Mo_contentOf 103 = .ok (.imul, 1) := by decide +kernel
theorem d_Mo_contentOf_104 : decode b_Mo_contentOf 104 = .ok (.aload_n 0, 1) := by decide +kernel
theorem d_Mo_contentOf_105 : decode b_Mo_contentOf 105 = .ok (.iload_n 1, 1) := by decide +kernel
theorem d_Mo_contentOf_106 : decode b_Mo_contentOf 106 = .ok (.iload 7, 2) := by decide +kernel
theorem d_Mo_contentOf_108 : decode b_Mo_contentOf 108 = .ok (.idiv, 1) := by decide +kernel
theorem d_Mo_contentOf_109 : decode b_Mo_contentOf 109 = .ok (.bipush 10, 2) := by decide +kernel
theorem d_Mo_contentOf_111 : decode b_Mo_contentOf 111 = .ok (.irem, 1) := by decide +kernel
theorem d_Mo_contentOf_112 : decode b_Mo_contentOf 112 = .ok (.iload_n 2, 1) := by decide +kernel
theorem d_Mo_contentOf_113 : decode b_Mo_contentOf 113 = .ok (.iload 7, 2) := by decide +kernel
theorem d_Mo_contentOf_115 : decode b_Mo_contentOf 115 = .ok (.idiv, 1) := by decide +kernel
theorem d_Mo_contentOf_116 : decode b_Mo_contentOf 116 = .ok (.bipush 10, 2) := by decide +kernel
theorem d_Mo_contentOf_118 : decode b_Mo_contentOf 118 = .ok (.irem, 1) := by decide +kernel
theorem d_Mo_contentOf_119 : decode b_Mo_contentOf 119 = .ok (.iload_n 3, 1) := by decide +kernel
theorem d_Mo_contentOf_120 : decode b_Mo_contentOf 120 = .ok (.iload 7, 2) := by decide +kernel
theorem d_Mo_contentOf_122 : decode b_Mo_contentOf 122 = .ok (.idiv, 1) := by decide +kernel
theorem d_Mo_contentOf_123 : decode b_Mo_contentOf 123 = .ok (.bipush 10, 2) := by decide +kernel
theorem d_Mo_contentOf_125 : decode b_Mo_contentOf 125 = .ok (.irem, 1) := by decide +kernel
theorem d_Mo_contentOf_126 : decode b_Mo_contentOf 126 = .ok (.iconst 4, 1) := by decide +kernel
theorem d_Mo_contentOf_127 : decode b_Mo_contentOf 127 = .ok (.invokevirtual 225, 3) := by decide +kernel
theorem d_Mo_contentOf_130 : decode b_Mo_contentOf 130 = .ok (.iadd, 1) := by decide +kernel
theorem d_Mo_contentOf_131 : decode b_Mo_contentOf 131 = .ok (.istore 6, 2) := by decide +kernel
theorem d_Mo_contentOf_133 : decode b_Mo_contentOf 133 = .ok (.iload 7, 2) := by decide +kernel
theorem d_Mo_contentOf_135 : decode b_Mo_contentOf 135 = .ok (.bipush 10, 2) := by decide +kernel
theorem d_Mo_contentOf_137 : decode b_Mo_contentOf 137 = .ok (.idiv, 1) := by decide +kernel
theorem d_Mo_contentOf_138 : decode b_Mo_contentOf 138 = .ok (.istore 7, 2) := by decide +kernel
theorem d_Mo_contentOf_140 : decode b_Mo_contentOf 140 = .ok (.iinc 8 1, 3) := by decide +kernel
theorem d_Mo_contentOf_143 : decode b_Mo_contentOf 143 = .ok (.goto (-51), 3) := by decide +kernel
theorem d_Mo_contentOf_146 : decode b_Mo_contentOf 146 = .ok (.iload 6, 2) := by decide +kernel
theorem d_Mo_contentOf_148 : decode b_Mo_contentOf 148 = .ok (.ireturn, 1) := by decide +kernel
def f_Mo_contentOf_51 (h : Hp) (l0 : Nat) (l1 : Int32) (l2 : Int32) (l3 : Int32) : Option (Int32 × Hp) :=
  (f_Mo_oneOf h l0 l1 l2 l3 (4 : Int32)).bind fun q2 =>
  some (q2.1, q2.2)
set_option maxHeartbeats 4000000 in
set_option maxRecDepth 100000 in
theorem t_Mo_contentOf_51 {h : Hp} {l0 : Nat} {l1 : Int32} {l2 : Int32} {l3 : Int32} {r : (Int32 × Hp)} (C : Cx base D cI cZ b_Mo_contentOf 9 "MovedFoldersModel" "contentOf" (some .int) p s m args meth c)  (hM : f_Mo_contentOf_51 h l0 l1 l2 l3 = some r) (H : Heap) (locs : List Loc) (ls : Array Slot) (hS : RS base D cI cZ s H locs h) (hl : lv_has ls 9 [(0, .ref (base + l0)), (1, .int l1), (2, .int l2), (3, .int l3)]) : Wg l base D cI cZ 2 45 0 0 r.2 (some (.int r.1)) p e s m args below meth c H locs 0 0 (F0 m 51 ls []) := by
  have hx := C.1
  have hb := C.2.1
  unfold f_Mo_contentOf_51 at hM
  refine lv_aload_n hx hb d_Mo_contentOf_51 rfl (lv_at hl 0 rfl) ?_
  refine lv_iload_n hx hb d_Mo_contentOf_52 rfl (lv_at hl 1 rfl) ?_
  refine lv_iload_n hx hb d_Mo_contentOf_53 rfl (lv_at hl 2 rfl) ?_
  refine lv_iload_n hx hb d_Mo_contentOf_54 rfl (lv_at hl 3 rfl) ?_
  refine lv_iconst (v := (4 : Int32)) hx hb d_Mo_contentOf_55 (by decide) ?_
  obtain ⟨q2, eq2, hM⟩ := bS hM
  refine r_callVi (x := q2.1) C hS cv_Mo_225 (c_Mo_oneOf l base D cI cZ h l0 l1 l2 l3 (4 : Int32) eq2) (o_Mo_oneOf eq2) (rest := []) rfl hl.1 rfl (Nat.le_of_ble_eq_true rfl) ⟨(Nat.le_of_ble_eq_true rfl), (Nat.le_of_ble_eq_true rfl)⟩ ⟨(Nat.le_of_ble_eq_true rfl), (Nat.le_of_ble_eq_true rfl)⟩ d_Mo_contentOf_56 (fun H locs hS => ?_)
  obtain rfl := Option.some.inj hM
  exact r_iret C hS d_Mo_contentOf_59
def f_Mo_contentOf_92 (l0 : Nat) (l1 : Int32) (l2 : Int32) (l3 : Int32) (l4 : Int32) : Nat → Int32 → Int32 → Int32 → Hp → Option (Int32 × Hp)
  | 0, _, _, _, _ => none
  | n + 1, l6, l7, l8, h =>
    if l4 ≤ l8 then (
      some (l6, h)
    ) else (
      (idv l1 l7).bind fun t5 =>
      (idv l2 l7).bind fun t6 =>
      (idv l3 l7).bind fun t7 =>
      (f_Mo_oneOf h l0 (irem t5 (10 : Int32)) (irem t6 (10 : Int32)) (irem t7 (10 : Int32)) (4 : Int32)).bind fun q8 =>
      f_Mo_contentOf_92 l0 l1 l2 l3 l4 n (((10 : Int32) * l6) + q8.1) (l7 / (10 : Int32)) (l8 + (1 : Int32)) q8.2
    )
set_option maxHeartbeats 4000000 in
set_option maxRecDepth 100000 in
theorem t_Mo_contentOf_92 {l0 : Nat} {l1 : Int32} {l2 : Int32} {l3 : Int32} {l4 : Int32} {r : (Int32 × Hp)} (C : Cx base D cI cZ b_Mo_contentOf 9 "MovedFoldersModel" "contentOf" (some .int) p s m args meth c)  : ∀ (n : Nat) (l6 : Int32) (l7 : Int32) (l8 : Int32) (h : Hp), f_Mo_contentOf_92 l0 l1 l2 l3 l4 n l6 l7 l8 h = some r → ∀ (H : Heap) (locs : List Loc) (ls : Array Slot), RS base D cI cZ s H locs h → lv_has ls 9 [(0, .ref (base + l0)), (1, .int l1), (2, .int l2), (3, .int l3), (4, .int l4), (6, .int l6), (7, .int l7), (8, .int l8)] → Wg l base D cI cZ 2 45 0 0 r.2 (some (.int r.1)) p e s m args below meth c H locs 0 0 (F0 m 92 ls []) := by
  have hx := C.1
  have hb := C.2.1
  intro n
  induction n with
  | zero =>
    intro l6 l7 l8 h hM
    rw [f_Mo_contentOf_92] at hM
    cases hM
  | succ n ih =>
    intro l6 l7 l8 h hM H locs ls hS hl
    rw [f_Mo_contentOf_92] at hM
    refine lv_iload hx hb d_Mo_contentOf_92 (lv_at hl 7 rfl) ?_
    refine lv_iload hx hb d_Mo_contentOf_94 (lv_at hl 4 rfl) ?_
    refine lv_icmp_ge (tgt := 146) hx hb d_Mo_contentOf_96 (by decide) (fun c96_9 => ?_) (fun c96_9 => ?_)
    · rw [if_pos c96_9] at hM
      refine lv_iload hx hb d_Mo_contentOf_146 (lv_at hl 5 rfl) ?_
      obtain rfl := Option.some.inj hM
      exact r_iret C hS d_Mo_contentOf_148
    · rw [if_neg c96_9] at hM
      refine lv_bipush (v := (10 : Int32)) hx hb d_Mo_contentOf_99 (by decide) ?_
      refine lv_iload hx hb d_Mo_contentOf_101 (lv_at hl 5 rfl) ?_
      refine lv_imul hx hb d_Mo_contentOf_103 ?_
      refine lv_aload_n hx hb d_Mo_contentOf_104 rfl (lv_at hl 0 rfl) ?_
      refine lv_iload_n hx hb d_Mo_contentOf_105 rfl (lv_at hl 1 rfl) ?_
      refine lv_iload hx hb d_Mo_contentOf_106 (lv_at hl 6 rfl) ?_
      obtain ⟨t5, et5, hM⟩ := bS hM
      refine r_idivS hx hb d_Mo_contentOf_108 et5 ?_
      refine lv_bipush (v := (10 : Int32)) hx hb d_Mo_contentOf_109 (by decide) ?_
      refine r_irem hx hb d_Mo_contentOf_111 (by decide) ?_
      refine lv_iload_n hx hb d_Mo_contentOf_112 rfl (lv_at hl 2 rfl) ?_
      refine lv_iload hx hb d_Mo_contentOf_113 (lv_at hl 6 rfl) ?_
      obtain ⟨t6, et6, hM⟩ := bS hM
      refine r_idivS hx hb d_Mo_contentOf_115 et6 ?_
      refine lv_bipush (v := (10 : Int32)) hx hb d_Mo_contentOf_116 (by decide) ?_
      refine r_irem hx hb d_Mo_contentOf_118 (by decide) ?_
      refine lv_iload_n hx hb d_Mo_contentOf_119 rfl (lv_at hl 3 rfl) ?_
      refine lv_iload hx hb d_Mo_contentOf_120 (lv_at hl 6 rfl) ?_
      obtain ⟨t7, et7, hM⟩ := bS hM
      refine r_idivS hx hb d_Mo_contentOf_122 et7 ?_
      refine lv_bipush (v := (10 : Int32)) hx hb d_Mo_contentOf_123 (by decide) ?_
      refine r_irem hx hb d_Mo_contentOf_125 (by decide) ?_
      refine lv_iconst (v := (4 : Int32)) hx hb d_Mo_contentOf_126 (by decide) ?_
      obtain ⟨q8, eq8, hM⟩ := bS hM
      refine r_callVi (x := q8.1) C hS cv_Mo_225 (c_Mo_oneOf l base D cI cZ h l0 (irem t5 (10 : Int32)) (irem t6 (10 : Int32)) (irem t7 (10 : Int32)) (4 : Int32) eq8) (o_Mo_oneOf eq8) (rest := [.int ((10 : Int32) * l6)]) rfl hl.1 rfl (Nat.le_of_ble_eq_true rfl) ⟨(Nat.le_of_ble_eq_true rfl), (Nat.le_of_ble_eq_true rfl)⟩ ⟨(Nat.le_of_ble_eq_true rfl), (Nat.le_of_ble_eq_true rfl)⟩ d_Mo_contentOf_127 (fun H locs hS => ?_)
      refine lv_iadd hx hb d_Mo_contentOf_130 ?_
      refine lv_istore (lv' := [(6, .int (((10 : Int32) * l6) + q8.1)), (0, .ref (base + l0)), (1, .int l1), (2, .int l2), (3, .int l3), (4, .int l4), (7, .int l7), (8, .int l8)]) hx hb d_Mo_contentOf_131 hl (by decide) rfl (fun ls hl => ?_)
      refine lv_iload hx hb d_Mo_contentOf_133 (lv_at hl 6 rfl) ?_
      refine lv_bipush (v := (10 : Int32)) hx hb d_Mo_contentOf_135 (by decide) ?_
      refine lv_idiv hx hb d_Mo_contentOf_137 (by decide) ?_
      refine lv_istore (lv' := [(7, .int (l7 / (10 : Int32))), (6, .int (((10 : Int32) * l6) + q8.1)), (0, .ref (base + l0)), (1, .int l1), (2, .int l2), (3, .int l3), (4, .int l4), (8, .int l8)]) hx hb d_Mo_contentOf_138 hl (by decide) rfl (fun ls hl => ?_)
      refine lv_iinc (v := (l8 + (1 : Int32))) (lv' := [(8, .int (l8 + (1 : Int32))), (7, .int (l7 / (10 : Int32))), (6, .int (((10 : Int32) * l6) + q8.1)), (0, .ref (base + l0)), (1, .int l1), (2, .int l2), (3, .int l3), (4, .int l4)]) hx hb d_Mo_contentOf_140 hl (k := 7) rfl (by rw [oi_1]) (by decide) rfl (fun ls hl => ?_)
      refine lv_goto (tgt := 92) hx hb d_Mo_contentOf_143 (by decide) ?_
      exact ih (((10 : Int32) * l6) + q8.1) (l7 / (10 : Int32)) (l8 + (1 : Int32)) q8.2 hM _ _ _ hS (lv_sub hl [3, 4, 5, 6, 7, 2, 1, 0] rfl)
def f_Mo_contentOf_69 (h : Hp) (l0 : Nat) (l1 : Int32) (l2 : Int32) (l3 : Int32) (l4 : Int32) (l6 : Int32) : Nat → Int32 → Int32 → Option (Int32 × Hp)
  | 0, _, _ => none
  | n + 1, l7, l8 =>
    if l4 ≤ l8 then (
      f_Mo_contentOf_92 l0 l1 l2 l3 l4 FU l6 l7 (0 : Int32) h
    ) else (
      f_Mo_contentOf_69 h l0 l1 l2 l3 l4 l6 n (l7 * (10 : Int32)) (l8 + (1 : Int32))
    )
set_option maxHeartbeats 4000000 in
set_option maxRecDepth 100000 in
theorem t_Mo_contentOf_69 {h : Hp} {l0 : Nat} {l1 : Int32} {l2 : Int32} {l3 : Int32} {l4 : Int32} {l6 : Int32} {r : (Int32 × Hp)} (C : Cx base D cI cZ b_Mo_contentOf 9 "MovedFoldersModel" "contentOf" (some .int) p s m args meth c)  : ∀ (n : Nat) (l7 : Int32) (l8 : Int32), f_Mo_contentOf_69 h l0 l1 l2 l3 l4 l6 n l7 l8 = some r → ∀ (H : Heap) (locs : List Loc) (ls : Array Slot), RS base D cI cZ s H locs h → lv_has ls 9 [(0, .ref (base + l0)), (1, .int l1), (2, .int l2), (3, .int l3), (4, .int l4), (6, .int l6), (7, .int l7), (8, .int l8)] → Wg l base D cI cZ 2 45 0 0 r.2 (some (.int r.1)) p e s m args below meth c H locs 0 0 (F0 m 69 ls []) := by
  have hx := C.1
  have hb := C.2.1
  intro n
  induction n with
  | zero =>
    intro l7 l8 hM
    rw [f_Mo_contentOf_69] at hM
    cases hM
  | succ n ih =>
    intro l7 l8 hM H locs ls hS hl
    rw [f_Mo_contentOf_69] at hM
    refine lv_iload hx hb d_Mo_contentOf_69 (lv_at hl 7 rfl) ?_
    refine lv_iload hx hb d_Mo_contentOf_71 (lv_at hl 4 rfl) ?_
    refine lv_icmp_ge (tgt := 89) hx hb d_Mo_contentOf_73 (by decide) (fun c73_8 => ?_) (fun c73_8 => ?_)
    · rw [if_pos c73_8] at hM
      refine lv_iconst (v := (0 : Int32)) hx hb d_Mo_contentOf_89 (by decide) ?_
      refine lv_istore (lv' := [(8, .int (0 : Int32)), (0, .ref (base + l0)), (1, .int l1), (2, .int l2), (3, .int l3), (4, .int l4), (6, .int l6), (7, .int l7)]) hx hb d_Mo_contentOf_90 hl (by decide) rfl (fun ls hl => ?_)
      exact t_Mo_contentOf_92  C  FU l6 l7 (0 : Int32) h hM _ _ _ hS (lv_sub hl [1, 2, 3, 4, 5, 6, 7, 0] rfl)
    · rw [if_neg c73_8] at hM
      refine lv_iload hx hb d_Mo_contentOf_76 (lv_at hl 6 rfl) ?_
      refine lv_bipush (v := (10 : Int32)) hx hb d_Mo_contentOf_78 (by decide) ?_
      refine lv_imul hx hb d_Mo_contentOf_80 ?_
      refine lv_istore (lv' := [(7, .int (l7 * (10 : Int32))), (0, .ref (base + l0)), (1, .int l1), (2, .int l2), (3, .int l3), (4, .int l4), (6, .int l6), (8, .int l8)]) hx hb d_Mo_contentOf_81 hl (by decide) rfl (fun ls hl => ?_)
      refine lv_iinc (v := (l8 + (1 : Int32))) (lv' := [(8, .int (l8 + (1 : Int32))), (7, .int (l7 * (10 : Int32))), (0, .ref (base + l0)), (1, .int l1), (2, .int l2), (3, .int l3), (4, .int l4), (6, .int l6)]) hx hb d_Mo_contentOf_83 hl (k := 7) rfl (by rw [oi_1]) (by decide) rfl (fun ls hl => ?_)
      refine lv_goto (tgt := 69) hx hb d_Mo_contentOf_86 (by decide) ?_
      exact ih (l7 * (10 : Int32)) (l8 + (1 : Int32)) hM _ _ _ hS (lv_sub hl [2, 3, 4, 5, 6, 7, 1, 0] rfl)
def f_Mo_contentOf (h : Hp) (l0 : Nat) (l1 : Int32) (l2 : Int32) (l3 : Int32) : Option (Int32 × Hp) :=
  ck h 9 l0 (
    (f_Mo_piecesIn l1).bind fun t1 =>
    if (if l2 = l3 then ((1 : Int32)) else (if l2 = l1 then ((1 : Int32)) else (if l3 = l1 then ((1 : Int32)) else ((0 : Int32))))) = (0 : Int32) then (
      (f_Mo_piecesIn l2).bind fun t3 =>
      if t3 = t1 then (
        (f_Mo_piecesIn l3).bind fun t4 =>
        if t4 = t1 then (
          f_Mo_contentOf_69 h l0 l1 l2 l3 t1 (1 : Int32) FU (1 : Int32) (1 : Int32)
        ) else (
          f_Mo_contentOf_51 h l0 l1 l2 l3
        )
      ) else (
        f_Mo_contentOf_51 h l0 l1 l2 l3
      )
    ) else (
      f_Mo_contentOf_51 h l0 l1 l2 l3
    )
  )
theorem o_Mo_contentOf {h : Hp} {l0 : Nat} {l1 : Int32} {l2 : Int32} {l3 : Int32} {r : (Int32 × Hp)} (hM : f_Mo_contentOf h l0 l1 l2 l3 = some r) : isO h 9 l0 = true := by
  unfold f_Mo_contentOf at hM
  exact (ck_some hM).1
set_option maxHeartbeats 4000000 in
set_option maxRecDepth 100000 in
theorem t_Mo_contentOf {h : Hp} {l0 : Nat} {l1 : Int32} {l2 : Int32} {l3 : Int32} {r : (Int32 × Hp)} (C : Cx base D cI cZ b_Mo_contentOf 9 "MovedFoldersModel" "contentOf" (some .int) p s m args meth c) (hM : f_Mo_contentOf h l0 l1 l2 l3 = some r) (H : Heap) (locs : List Loc) (ls : Array Slot) (hS : RS base D cI cZ s H locs h) (hl : lv_has ls 9 [(0, .ref (base + l0)), (1, .int l1), (2, .int l2), (3, .int l3)]) : Wg l base D cI cZ 2 45 0 0 r.2 (some (.int r.1)) p e s m args below meth c H locs 0 0 (F0 m 0 ls []) := by
  have hx := C.1
  have hb := C.2.1
  unfold f_Mo_contentOf at hM
  replace hM := (ck_some hM).2
  refine lv_iload_n hx hb d_Mo_contentOf_0 rfl (lv_at hl 1 rfl) ?_
  obtain ⟨t1, et1, hM⟩ := bS hM
  refine r_callSi (x := t1) C hS cs_Mo_138 (c_Mo_piecesIn l base D cI cZ h l1 et1) (rest := []) rfl hl.1 rfl (Nat.le_of_ble_eq_true rfl) ⟨(Nat.le_of_ble_eq_true rfl), (Nat.le_of_ble_eq_true rfl)⟩ ⟨(Nat.le_of_ble_eq_true rfl), (Nat.le_of_ble_eq_true rfl)⟩ d_Mo_contentOf_1 (fun H locs hS => ?_)
  refine lv_istore (lv' := [(4, .int t1), (0, .ref (base + l0)), (1, .int l1), (2, .int l2), (3, .int l3)]) hx hb d_Mo_contentOf_4 hl (by decide) rfl (fun ls hl => ?_)
  refine lv_iload_n hx hb d_Mo_contentOf_6 rfl (lv_at hl 3 rfl) ?_
  refine lv_iload_n hx hb d_Mo_contentOf_7 rfl (lv_at hl 4 rfl) ?_
  have kJ26_1 : ∀ (H : Heap) (locs : List Loc) (ls : Array Slot), RS base D cI cZ s H locs h → lv_has ls 9 [(0, .ref (base + l0)), (1, .int l1), (2, .int l2), (3, .int l3), (4, .int t1)] → Wg l base D cI cZ 2 45 0 0 r.2 (some (.int r.1)) p e s m args below meth c H locs 0 0 (F0 m 26 ls [.int (if l2 = l3 then ((1 : Int32)) else (if l2 = l1 then ((1 : Int32)) else (if l3 = l1 then ((1 : Int32)) else ((0 : Int32)))))]) := by
    intro H locs ls hS hl
    refine lv_istore (lv' := [(5, .int (if l2 = l3 then ((1 : Int32)) else (if l2 = l1 then ((1 : Int32)) else (if l3 = l1 then ((1 : Int32)) else ((0 : Int32)))))), (0, .ref (base + l0)), (1, .int l1), (2, .int l2), (3, .int l3), (4, .int t1)]) hx hb d_Mo_contentOf_26 hl (by decide) rfl (fun ls hl => ?_)
    refine lv_iload hx hb d_Mo_contentOf_28 (lv_at hl 0 rfl) ?_
    refine lv_if_ne (tgt := 51) hx hb d_Mo_contentOf_30 (by decide) (fun c30_5 => ?_) (fun c30_5 => ?_)
    · rw [if_neg c30_5] at hM
      exact t_Mo_contentOf_51  C  hM _ _ _ hS (lv_sub hl [1, 2, 3, 4] rfl)
    · rw [if_pos c30_5] at hM
      refine lv_iload_n hx hb d_Mo_contentOf_33 rfl (lv_at hl 3 rfl) ?_
      obtain ⟨t3, et3, hM⟩ := bS hM
      refine r_callSi (x := t3) C hS cs_Mo_138 (c_Mo_piecesIn l base D cI cZ h l2 et3) (rest := []) rfl hl.1 rfl (Nat.le_of_ble_eq_true rfl) ⟨(Nat.le_of_ble_eq_true rfl), (Nat.le_of_ble_eq_true rfl)⟩ ⟨(Nat.le_of_ble_eq_true rfl), (Nat.le_of_ble_eq_true rfl)⟩ d_Mo_contentOf_34 (fun H locs hS => ?_)
      refine lv_iload hx hb d_Mo_contentOf_37 (lv_at hl 5 rfl) ?_
      refine lv_icmp_ne (tgt := 51) hx hb d_Mo_contentOf_39 (by decide) (fun c39_6 => ?_) (fun c39_6 => ?_)
      · rw [if_neg c39_6] at hM
        exact t_Mo_contentOf_51  C  hM _ _ _ hS (lv_sub hl [1, 2, 3, 4] rfl)
      · rw [if_pos c39_6] at hM
        refine lv_iload_n hx hb d_Mo_contentOf_42 rfl (lv_at hl 4 rfl) ?_
        obtain ⟨t4, et4, hM⟩ := bS hM
        refine r_callSi (x := t4) C hS cs_Mo_138 (c_Mo_piecesIn l base D cI cZ h l3 et4) (rest := []) rfl hl.1 rfl (Nat.le_of_ble_eq_true rfl) ⟨(Nat.le_of_ble_eq_true rfl), (Nat.le_of_ble_eq_true rfl)⟩ ⟨(Nat.le_of_ble_eq_true rfl), (Nat.le_of_ble_eq_true rfl)⟩ d_Mo_contentOf_43 (fun H locs hS => ?_)
        refine lv_iload hx hb d_Mo_contentOf_46 (lv_at hl 5 rfl) ?_
        refine lv_icmp_eq (tgt := 60) hx hb d_Mo_contentOf_48 (by decide) (fun c48_7 => ?_) (fun c48_7 => ?_)
        · rw [if_pos c48_7] at hM
          refine lv_iconst (v := (1 : Int32)) hx hb d_Mo_contentOf_60 (by decide) ?_
          refine lv_istore (lv' := [(6, .int (1 : Int32)), (5, .int (if l2 = l3 then ((1 : Int32)) else (if l2 = l1 then ((1 : Int32)) else (if l3 = l1 then ((1 : Int32)) else ((0 : Int32)))))), (0, .ref (base + l0)), (1, .int l1), (2, .int l2), (3, .int l3), (4, .int t1)]) hx hb d_Mo_contentOf_61 hl (by decide) rfl (fun ls hl => ?_)
          refine lv_iconst (v := (1 : Int32)) hx hb d_Mo_contentOf_63 (by decide) ?_
          refine lv_istore (lv' := [(7, .int (1 : Int32)), (6, .int (1 : Int32)), (5, .int (if l2 = l3 then ((1 : Int32)) else (if l2 = l1 then ((1 : Int32)) else (if l3 = l1 then ((1 : Int32)) else ((0 : Int32)))))), (0, .ref (base + l0)), (1, .int l1), (2, .int l2), (3, .int l3), (4, .int t1)]) hx hb d_Mo_contentOf_64 hl (by decide) rfl (fun ls hl => ?_)
          refine lv_iconst (v := (1 : Int32)) hx hb d_Mo_contentOf_66 (by decide) ?_
          refine lv_istore (lv' := [(8, .int (1 : Int32)), (7, .int (1 : Int32)), (6, .int (1 : Int32)), (5, .int (if l2 = l3 then ((1 : Int32)) else (if l2 = l1 then ((1 : Int32)) else (if l3 = l1 then ((1 : Int32)) else ((0 : Int32)))))), (0, .ref (base + l0)), (1, .int l1), (2, .int l2), (3, .int l3), (4, .int t1)]) hx hb d_Mo_contentOf_67 hl (by decide) rfl (fun ls hl => ?_)
          exact t_Mo_contentOf_69  C  FU (1 : Int32) (1 : Int32) hM _ _ _ hS (lv_sub hl [4, 5, 6, 7, 8, 2, 1, 0] rfl)
        · rw [if_neg c48_7] at hM
          exact t_Mo_contentOf_51  C  hM _ _ _ hS (lv_sub hl [1, 2, 3, 4] rfl)
  refine lv_icmp_eq (tgt := 21) hx hb d_Mo_contentOf_8 (by decide) (fun c8_2 => ?_) (fun c8_2 => ?_)
  · rw [if_pos c8_2] at kJ26_1
    refine lv_iconst (v := (1 : Int32)) hx hb d_Mo_contentOf_21 (by decide) ?_
    refine lv_goto (tgt := 26) hx hb d_Mo_contentOf_22 (by decide) ?_
    exact kJ26_1 _ _ _ hS (lv_sub hl [1, 2, 3, 4, 0] rfl)
  · rw [if_neg c8_2] at kJ26_1
    refine lv_iload_n hx hb d_Mo_contentOf_11 rfl (lv_at hl 3 rfl) ?_
    refine lv_iload_n hx hb d_Mo_contentOf_12 rfl (lv_at hl 2 rfl) ?_
    refine lv_icmp_eq (tgt := 21) hx hb d_Mo_contentOf_13 (by decide) (fun c13_3 => ?_) (fun c13_3 => ?_)
    · rw [if_pos c13_3] at kJ26_1
      refine lv_iconst (v := (1 : Int32)) hx hb d_Mo_contentOf_21 (by decide) ?_
      refine lv_goto (tgt := 26) hx hb d_Mo_contentOf_22 (by decide) ?_
      exact kJ26_1 _ _ _ hS (lv_sub hl [1, 2, 3, 4, 0] rfl)
    · rw [if_neg c13_3] at kJ26_1
      refine lv_iload_n hx hb d_Mo_contentOf_16 rfl (lv_at hl 4 rfl) ?_
      refine lv_iload_n hx hb d_Mo_contentOf_17 rfl (lv_at hl 2 rfl) ?_
      refine lv_icmp_ne (tgt := 25) hx hb d_Mo_contentOf_18 (by decide) (fun c18_4 => ?_) (fun c18_4 => ?_)
      · rw [if_neg c18_4] at kJ26_1
        refine lv_iconst (v := (0 : Int32)) hx hb d_Mo_contentOf_25 (by decide) ?_
        exact kJ26_1 _ _ _ hS (lv_sub hl [1, 2, 3, 4, 0] rfl)
      · rw [if_pos c18_4] at kJ26_1
        refine lv_iconst (v := (1 : Int32)) hx hb d_Mo_contentOf_21 (by decide) ?_
        refine lv_goto (tgt := 26) hx hb d_Mo_contentOf_22 (by decide) ?_
        exact kJ26_1 _ _ _ hS (lv_sub hl [1, 2, 3, 4, 0] rfl)
theorem c_Mo_contentOf (l : Launch) (base : Nat) (D : va_G) (cI cZ : ClassId) (h : Hp) (l0 : Nat) (l1 : Int32) (l2 : Int32) (l3 : Int32) {r : (Int32 × Hp)} (hM : f_Mo_contentOf h l0 l1 l2 l3 = some r) : Ct l base D cI cZ y_Mo_contentOf b_Mo_contentOf 9 (some .int) 2 45 0 0 h [.ref (base + l0), .int l1, .int l2, .int l3] r.2 (some (.int r.1)) :=
  ct_of (by decide) (Nat.le_of_ble_eq_true rfl) (fun p e s m below meth c ls C hS hl => t_Mo_contentOf C hM _ _ _ hS hl)
theorem d_Mo_isAsBase_0 : decode b_Mo_isAsBase 0 = .ok (.aload_n 0, 1) := by decide +kernel
theorem d_Mo_isAsBase_1 : decode b_Mo_isAsBase 1 = .ok (.getfield 26, 3) := by decide +kernel
theorem d_Mo_isAsBase_4 : decode b_Mo_isAsBase 4 = .ok (.bipush 12, 2) := by decide +kernel
theorem d_Mo_isAsBase_6 : decode b_Mo_isAsBase 6 = .ok (.iload_n 1, 1) := by decide +kernel
theorem d_Mo_isAsBase_7 : decode b_Mo_isAsBase 7 = .ok (.imul, 1) := by decide +kernel
theorem d_Mo_isAsBase_8 : decode b_Mo_isAsBase 8 = .ok (.iload_n 2, 1) := by decide +kernel
theorem d_Mo_isAsBase_9 : decode b_Mo_isAsBase 9 = .ok (.iadd, 1) := by decide +kernel
theorem d_Mo_isAsBase_10 : decode b_Mo_isAsBase 10 = .ok (.iaload, 1) := by decide +kernel
theorem d_Mo_isAsBase_11 : decode b_Mo_isAsBase 11 = .ok (.istore_n 3, 1) := by decide +kernel
theorem d_Mo_isAsBase_12 : decode b_Mo_isAsBase 12 = .ok (.iload_n 3, 1) := by decide +kernel
theorem d_Mo_isAsBase_13 : decode b_Mo_isAsBase 13 = .ok (.ifCond .lt 42, 3) := by decide +kernel
theorem d_Mo_isAsBase_16 : decode b_Mo_isAsBase 16 = .ok (.aload_n 0, 1) := by decide +kernel
theorem d_Mo_isAsBase_17 : decode b_Mo_isAsBase 17 = .ok (.getfield 7, 3) := by decide +kernel
theorem d_Mo_isAsBase_20 : decode b_Mo_isAsBase 20 = .ok (.bipush 12, 2) := by decide +kernel
theorem d_Mo_isAsBase_22 : decode b_Mo_isAsBase 22 = .ok (.iload_n 1, 1) := by decide +kernel
theorem d_Mo_isAsBase_23 : decode b_Mo_isAsBase 23 = .ok (.imul, 1) := by decide +kernel
theorem d_Mo_isAsBase_24 : decode b_Mo_isAsBase 24 = .ok (.iload_n 3, 1) := by decide +kernel
theorem d_Mo_isAsBase_25 : decode b_Mo_isAsBase 25 = .ok (.iadd, 1) := by decide +kernel
theorem d_Mo_isAsBase_26 : decode b_Mo_isAsBase 26 = .ok (.iaload, 1) := by decide +kernel
theorem d_Mo_isAsBase_27 : decode b_Mo_isAsBase 27 = .ok (.aload_n 0, 1) := by decide +kernel
theorem d_Mo_isAsBase_28 : decode b_Mo_isAsBase 28 = .ok (.getfield 7, 3) := by decide +kernel
theorem d_Mo_isAsBase_31 : decode b_Mo_isAsBase 31 = .ok (.iload_n 2, 1) := by decide +kernel
theorem d_Mo_isAsBase_32 : decode b_Mo_isAsBase 32 = .ok (.iaload, 1) := by decide +kernel
theorem d_Mo_isAsBase_33 : decode b_Mo_isAsBase 33 = .ok (.if_icmp .ne 22, 3) := by decide +kernel
theorem d_Mo_isAsBase_36 : decode b_Mo_isAsBase 36 = .ok (.aload_n 0, 1) := by decide +kernel
theorem d_Mo_isAsBase_37 : decode b_Mo_isAsBase 37 = .ok (.iload_n 1, 1) := by decide +kernel
theorem d_Mo_isAsBase_38 : decode b_Mo_isAsBase 38 = .ok (.iload_n 3, 1) := by decide +kernel
theorem d_Mo_isAsBase_39 : decode b_Mo_isAsBase 39 = .ok (.invokevirtual 132, 3) := by decide +kernel
theorem d_Mo_isAsBase_42 : decode b_Mo_isAsBase 42 = .ok (.aload_n 0, 1) := by decide +kernel
theorem d_Mo_isAsBase_43 : decode b_Mo_isAsBase 43 = .ok (.iconst 0, 1) := by decide +kernel
theorem d_Mo_isAsBase_44 : decode b_Mo_isAsBase 44 = .ok (.iload_n 2, 1) := by decide +kernel
theorem d_Mo_isAsBase_45 : decode b_Mo_isAsBase 45 = .ok (.invokevirtual 132, 3) := by decide +kernel
theorem d_Mo_isAsBase_48 : decode b_Mo_isAsBase 48 = .ok (.if_icmp .ne 7, 3) := by decide +kernel
theorem d_Mo_isAsBase_51 : decode b_Mo_isAsBase 51 = .ok (.iconst 1, 1) := by decide +kernel
theorem d_Mo_isAsBase_52 : decode b_Mo_isAsBase 52 = .ok (.goto 4, 3) := by decide +kernel
theorem d_Mo_isAsBase_55 : decode b_Mo_isAsBase 55 = .ok (.iconst 0, 1) := by decide +kernel
theorem d_Mo_isAsBase_56 : decode b_Mo_isAsBase 56 = .ok (.ireturn, 1) := by decide +kernel
def f_Mo_isAsBase (h : Hp) (l0 : Nat) (l1 : Int32) (l2 : Int32) : Option Int32 :=
  ck h 9 l0 (
    (gR h 9 l0 11).bind fun t1 =>
    (gA h false t1 (((12 : Int32) * l1) + l2)).bind fun t2 =>
    (
      if t2 < (0 : Int32) then (
        some (0 : Int32)
      ) else (
        (gR h 9 l0 0).bind fun t4 =>
        (gA h false t4 (((12 : Int32) * l1) + t2)).bind fun t5 =>
        (gR h 9 l0 0).bind fun t6 =>
        (gA h false t6 l2).bind fun t7 =>
        if t5 = t7 then (
          (f_Mo_contentAt h l0 l1 t2).bind fun t8 =>
          (f_Mo_contentAt h l0 (0 : Int32) l2).bind fun t9 =>
          if t8 = t9 then (
            some (1 : Int32)
          ) else (
            some (0 : Int32)
          )
        ) else (
          some (0 : Int32)
        )
      )
    ).bind fun t3 =>
    rz t3
  )
theorem o_Mo_isAsBase {h : Hp} {l0 : Nat} {l1 : Int32} {l2 : Int32} {r : Int32} (hM : f_Mo_isAsBase h l0 l1 l2 = some r) : isO h 9 l0 = true := by
  unfold f_Mo_isAsBase at hM
  exact (ck_some hM).1
set_option maxHeartbeats 4000000 in
set_option maxRecDepth 100000 in
theorem t_Mo_isAsBase {h : Hp} {l0 : Nat} {l1 : Int32} {l2 : Int32} {r : Int32} (C : Cx base D cI cZ b_Mo_isAsBase 4 "MovedFoldersModel" "isAsBase" (some .boolean) p s m args meth c) (hM : f_Mo_isAsBase h l0 l1 l2 = some r) (H : Heap) (locs : List Loc) (ls : Array Slot) (hS : RS base D cI cZ s H locs h) (hl : lv_has ls 4 [(0, .ref (base + l0)), (1, .int l1), (2, .int l2)]) : Wg l base D cI cZ 1 22 0 0 h (some (.int r)) p e s m args below meth c H locs 0 0 (F0 m 0 ls []) := by
  have hx := C.1
  have hb := C.2.1
  unfold f_Mo_isAsBase at hM
  replace hM := (ck_some hM).2
  refine lv_aload_n hx hb d_Mo_isAsBase_0 rfl (lv_at hl 0 rfl) ?_
  obtain ⟨t1, et1, hM⟩ := bS hM
  refine r_getR C hS fl_Mo_26 et1 d_Mo_isAsBase_1 ?_
  refine lv_bipush (v := (12 : Int32)) hx hb d_Mo_isAsBase_4 (by decide) ?_
  refine lv_iload_n hx hb d_Mo_isAsBase_6 rfl (lv_at hl 1 rfl) ?_
  refine lv_imul hx hb d_Mo_isAsBase_7 ?_
  refine lv_iload_n hx hb d_Mo_isAsBase_8 rfl (lv_at hl 2 rfl) ?_
  refine lv_iadd hx hb d_Mo_isAsBase_9 ?_
  obtain ⟨t2, et2, hM⟩ := bS hM
  refine r_iald C hS et2 d_Mo_isAsBase_10 ?_
  refine lv_istore_n (lv' := [(3, .int t2), (0, .ref (base + l0)), (1, .int l1), (2, .int l2)]) hx hb d_Mo_isAsBase_11 rfl hl (by decide) rfl (fun ls hl => ?_)
  refine lv_iload_n hx hb d_Mo_isAsBase_12 rfl (lv_at hl 0 rfl) ?_
  obtain ⟨t3, et3, hM⟩ := bS hM
  have kJ56_1 : ∀ (H : Heap) (locs : List Loc) (ls : Array Slot), RS base D cI cZ s H locs h → lv_has ls 4 [] → Wg l base D cI cZ 1 22 0 0 h (some (.int r)) p e s m args below meth c H locs 0 0 (F0 m 56 ls [.int t3]) := by
    intro H locs ls hS hl
    exact r_zret C hS hM d_Mo_isAsBase_56
  refine lv_if_lt (tgt := 55) hx hb d_Mo_isAsBase_13 (by decide) (fun c13_2 => ?_) (fun c13_2 => ?_)
  · rw [if_pos c13_2] at et3
    refine lv_iconst (v := (0 : Int32)) hx hb d_Mo_isAsBase_55 (by decide) ?_
    obtain rfl := Option.some.inj et3
    exact kJ56_1 _ _ _ hS (lv_sub hl [] rfl)
  · rw [if_neg c13_2] at et3
    refine lv_aload_n hx hb d_Mo_isAsBase_16 rfl (lv_at hl 1 rfl) ?_
    obtain ⟨t4, et4, et3⟩ := bS et3
    refine r_getR C hS fl_Mo_7 et4 d_Mo_isAsBase_17 ?_
    refine lv_bipush (v := (12 : Int32)) hx hb d_Mo_isAsBase_20 (by decide) ?_
    refine lv_iload_n hx hb d_Mo_isAsBase_22 rfl (lv_at hl 2 rfl) ?_
    refine lv_imul hx hb d_Mo_isAsBase_23 ?_
    refine lv_iload_n hx hb d_Mo_isAsBase_24 rfl (lv_at hl 0 rfl) ?_
    refine lv_iadd hx hb d_Mo_isAsBase_25 ?_
    obtain ⟨t5, et5, et3⟩ := bS et3
    refine r_iald C hS et5 d_Mo_isAsBase_26 ?_
    refine lv_aload_n hx hb d_Mo_isAsBase_27 rfl (lv_at hl 1 rfl) ?_
    obtain ⟨t6, et6, et3⟩ := bS et3
    refine r_getR C hS fl_Mo_7 et6 d_Mo_isAsBase_28 ?_
    refine lv_iload_n hx hb d_Mo_isAsBase_31 rfl (lv_at hl 3 rfl) ?_
    obtain ⟨t7, et7, et3⟩ := bS et3
    refine r_iald C hS et7 d_Mo_isAsBase_32 ?_
    refine lv_icmp_ne (tgt := 55) hx hb d_Mo_isAsBase_33 (by decide) (fun c33_3 => ?_) (fun c33_3 => ?_)
    · rw [if_neg c33_3] at et3
      refine lv_iconst (v := (0 : Int32)) hx hb d_Mo_isAsBase_55 (by decide) ?_
      obtain rfl := Option.some.inj et3
      exact kJ56_1 _ _ _ hS (lv_sub hl [] rfl)
    · rw [if_pos c33_3] at et3
      refine lv_aload_n hx hb d_Mo_isAsBase_36 rfl (lv_at hl 1 rfl) ?_
      refine lv_iload_n hx hb d_Mo_isAsBase_37 rfl (lv_at hl 2 rfl) ?_
      refine lv_iload_n hx hb d_Mo_isAsBase_38 rfl (lv_at hl 0 rfl) ?_
      obtain ⟨t8, et8, et3⟩ := bS et3
      refine r_callVi (x := t8) C hS cv_Mo_132 (c_Mo_contentAt l base D cI cZ h l0 l1 t2 et8) (o_Mo_contentAt et8) (rest := []) rfl hl.1 rfl (Nat.le_of_ble_eq_true rfl) ⟨(Nat.le_of_ble_eq_true rfl), (Nat.le_of_ble_eq_true rfl)⟩ ⟨(Nat.le_of_ble_eq_true rfl), (Nat.le_of_ble_eq_true rfl)⟩ d_Mo_isAsBase_39 (fun H locs hS => ?_)
      refine lv_aload_n hx hb d_Mo_isAsBase_42 rfl (lv_at hl 1 rfl) ?_
      refine lv_iconst (v := (0 : Int32)) hx hb d_Mo_isAsBase_43 (by decide) ?_
      refine lv_iload_n hx hb d_Mo_isAsBase_44 rfl (lv_at hl 3 rfl) ?_
      obtain ⟨t9, et9, et3⟩ := bS et3
      refine r_callVi (x := t9) C hS cv_Mo_132 (c_Mo_contentAt l base D cI cZ h l0 (0 : Int32) l2 et9) (o_Mo_contentAt et9) (rest := [.int t8]) rfl hl.1 rfl (Nat.le_of_ble_eq_true rfl) ⟨(Nat.le_of_ble_eq_true rfl), (Nat.le_of_ble_eq_true rfl)⟩ ⟨(Nat.le_of_ble_eq_true rfl), (Nat.le_of_ble_eq_true rfl)⟩ d_Mo_isAsBase_45 (fun H locs hS => ?_)
      refine lv_icmp_ne (tgt := 55) hx hb d_Mo_isAsBase_48 (by decide) (fun c48_4 => ?_) (fun c48_4 => ?_)
      · rw [if_neg c48_4] at et3
        refine lv_iconst (v := (0 : Int32)) hx hb d_Mo_isAsBase_55 (by decide) ?_
        obtain rfl := Option.some.inj et3
        exact kJ56_1 _ _ _ hS (lv_sub hl [] rfl)
      · rw [if_pos c48_4] at et3
        refine lv_iconst (v := (1 : Int32)) hx hb d_Mo_isAsBase_51 (by decide) ?_
        refine lv_goto (tgt := 56) hx hb d_Mo_isAsBase_52 (by decide) ?_
        obtain rfl := Option.some.inj et3
        exact kJ56_1 _ _ _ hS (lv_sub hl [] rfl)
theorem c_Mo_isAsBase (l : Launch) (base : Nat) (D : va_G) (cI cZ : ClassId) (h : Hp) (l0 : Nat) (l1 : Int32) (l2 : Int32) {r : Int32} (hM : f_Mo_isAsBase h l0 l1 l2 = some r) : Ct l base D cI cZ y_Mo_isAsBase b_Mo_isAsBase 4 (some .boolean) 1 22 0 0 h [.ref (base + l0), .int l1, .int l2] h (some (.int r)) :=
  ct_of (by decide) (Nat.le_of_ble_eq_true rfl) (fun p e s m below meth c ls C hS hl => t_Mo_isAsBase C hM _ _ _ hS hl)
theorem d_Mo_pathOn_0 : decode b_Mo_pathOn 0 = .ok (.aload_n 0, 1) := by decide +kernel
theorem d_Mo_pathOn_1 : decode b_Mo_pathOn 1 = .ok (.getfield 26, 3) := by decide +kernel
theorem d_Mo_pathOn_4 : decode b_Mo_pathOn 4 = .ok (.bipush 12, 2) := by decide +kernel
theorem d_Mo_pathOn_6 : decode b_Mo_pathOn 6 = .ok (.iload_n 1, 1) := by decide +kernel
theorem d_Mo_pathOn_7 : decode b_Mo_pathOn 7 = .ok (.imul, 1) := by decide +kernel
theorem d_Mo_pathOn_8 : decode b_Mo_pathOn 8 = .ok (.iload_n 2, 1) := by decide +kernel
theorem d_Mo_pathOn_9 : decode b_Mo_pathOn 9 = .ok (.iadd, 1) := by decide +kernel
theorem d_Mo_pathOn_10 : decode b_Mo_pathOn 10 = .ok (.iaload, 1) := by decide +kernel
theorem d_Mo_pathOn_11 : decode b_Mo_pathOn 11 = .ok (.istore_n 3, 1) := by decide +kernel
theorem d_Mo_pathOn_12 : decode b_Mo_pathOn 12 = .ok (.iload_n 3, 1) := by decide +kernel
theorem d_Mo_pathOn_13 : decode b_Mo_pathOn 13 = .ok (.ifCond .ge 12, 3) := by decide +kernel
theorem d_Mo_pathOn_16 : decode b_Mo_pathOn 16 = .ok (.aload_n 0, 1) := by decide +kernel
theorem d_Mo_pathOn_17 : decode b_Mo_pathOn 17 = .ok (.getfield 7, 3) := by decide +kernel
theorem d_Mo_pathOn_20 : decode b_Mo_pathOn 20 = .ok (.iload_n 2, 1) := by decide +kernel
theorem d_Mo_pathOn_21 : decode b_Mo_pathOn 21 = .ok (.iaload, 1) := by decide +kernel
theorem d_Mo_pathOn_22 : decode b_Mo_pathOn 22 = .ok (.goto 14, 3) := by decide +kernel
theorem d_Mo_pathOn_25 : decode b_Mo_pathOn 25 = .ok (.aload_n 0, 1) := by decide +kernel
theorem d_Mo_pathOn_26 : decode b_Mo_pathOn 26 = .ok (.getfield 7, 3) := by decide +kernel
theorem d_Mo_pathOn_29 : decode b_Mo_pathOn 29 = .ok (.bipush 12, 2) := by decide +kernel
theorem d_Mo_pathOn_31 : decode b_Mo_pathOn 31 = .ok (.iload_n 1, 1) := by decide +kernel
theorem d_Mo_pathOn_32 : decode b_Mo_pathOn 32 = .ok (.imul, 1) := by decide +kernel
theorem d_Mo_pathOn_33 : decode b_Mo_pathOn 33 = .ok (.iload_n 3, 1) := by decide +kernel
theorem d_Mo_pathOn_34 : decode b_Mo_pathOn 34 = .ok (.iadd, 1) := by decide +kernel
theorem d_Mo_pathOn_35 : decode b_Mo_pathOn 35 = .ok (.iaload, 1) := by decide +kernel
theorem d_Mo_pathOn_36 : decode b_Mo_pathOn 36 = .ok (.ireturn, 1) := by decide +kernel
def f_Mo_pathOn (h : Hp) (l0 : Nat) (l1 : Int32) (l2 : Int32) : Option Int32 :=
  ck h 9 l0 (
    (gR h 9 l0 11).bind fun t1 =>
    (gA h false t1 (((12 : Int32) * l1) + l2)).bind fun t2 =>
    (
      if (0 : Int32) ≤ t2 then (
        (gR h 9 l0 0).bind fun t4 =>
        (gA h false t4 (((12 : Int32) * l1) + t2)).bind fun t5 =>
        some t5
      ) else (
        (gR h 9 l0 0).bind fun t6 =>
        (gA h false t6 l2).bind fun t7 =>
        some t7
      )
    ).bind fun t3 =>
    some t3
  )
theorem o_Mo_pathOn {h : Hp} {l0 : Nat} {l1 : Int32} {l2 : Int32} {r : Int32} (hM : f_Mo_pathOn h l0 l1 l2 = some r) : isO h 9 l0 = true := by
  unfold f_Mo_pathOn at hM
  exact (ck_some hM).1
set_option maxHeartbeats 4000000 in
set_option maxRecDepth 100000 in
theorem t_Mo_pathOn {h : Hp} {l0 : Nat} {l1 : Int32} {l2 : Int32} {r : Int32} (C : Cx base D cI cZ b_Mo_pathOn 4 "MovedFoldersModel" "pathOn" (some .int) p s m args meth c) (hM : f_Mo_pathOn h l0 l1 l2 = some r) (H : Heap) (locs : List Loc) (ls : Array Slot) (hS : RS base D cI cZ s H locs h) (hl : lv_has ls 4 [(0, .ref (base + l0)), (1, .int l1), (2, .int l2)]) : Wg l base D cI cZ 0 0 0 0 h (some (.int r)) p e s m args below meth c H locs 0 0 (F0 m 0 ls []) := by
  have hx := C.1
  have hb := C.2.1
  unfold f_Mo_pathOn at hM
  replace hM := (ck_some hM).2
  refine lv_aload_n hx hb d_Mo_pathOn_0 rfl (lv_at hl 0 rfl) ?_
  obtain ⟨t1, et1, hM⟩ := bS hM
  refine r_getR C hS fl_Mo_26 et1 d_Mo_pathOn_1 ?_
  refine lv_bipush (v := (12 : Int32)) hx hb d_Mo_pathOn_4 (by decide) ?_
  refine lv_iload_n hx hb d_Mo_pathOn_6 rfl (lv_at hl 1 rfl) ?_
  refine lv_imul hx hb d_Mo_pathOn_7 ?_
  refine lv_iload_n hx hb d_Mo_pathOn_8 rfl (lv_at hl 2 rfl) ?_
  refine lv_iadd hx hb d_Mo_pathOn_9 ?_
  obtain ⟨t2, et2, hM⟩ := bS hM
  refine r_iald C hS et2 d_Mo_pathOn_10 ?_
  refine lv_istore_n (lv' := [(3, .int t2), (0, .ref (base + l0)), (1, .int l1), (2, .int l2)]) hx hb d_Mo_pathOn_11 rfl hl (by decide) rfl (fun ls hl => ?_)
  refine lv_iload_n hx hb d_Mo_pathOn_12 rfl (lv_at hl 0 rfl) ?_
  obtain ⟨t3, et3, hM⟩ := bS hM
  have kJ36_1 : ∀ (H : Heap) (locs : List Loc) (ls : Array Slot), RS base D cI cZ s H locs h → lv_has ls 4 [] → Wg l base D cI cZ 0 0 0 0 h (some (.int r)) p e s m args below meth c H locs 0 0 (F0 m 36 ls [.int t3]) := by
    intro H locs ls hS hl
    obtain rfl := Option.some.inj hM
    exact r_iret C hS d_Mo_pathOn_36
  refine lv_if_ge (tgt := 25) hx hb d_Mo_pathOn_13 (by decide) (fun c13_2 => ?_) (fun c13_2 => ?_)
  · rw [if_pos c13_2] at et3
    refine lv_aload_n hx hb d_Mo_pathOn_25 rfl (lv_at hl 1 rfl) ?_
    obtain ⟨t4, et4, et3⟩ := bS et3
    refine r_getR C hS fl_Mo_7 et4 d_Mo_pathOn_26 ?_
    refine lv_bipush (v := (12 : Int32)) hx hb d_Mo_pathOn_29 (by decide) ?_
    refine lv_iload_n hx hb d_Mo_pathOn_31 rfl (lv_at hl 2 rfl) ?_
    refine lv_imul hx hb d_Mo_pathOn_32 ?_
    refine lv_iload_n hx hb d_Mo_pathOn_33 rfl (lv_at hl 0 rfl) ?_
    refine lv_iadd hx hb d_Mo_pathOn_34 ?_
    obtain ⟨t5, et5, et3⟩ := bS et3
    refine r_iald C hS et5 d_Mo_pathOn_35 ?_
    obtain rfl := Option.some.inj et3
    exact kJ36_1 _ _ _ hS (lv_sub hl [] rfl)
  · rw [if_neg c13_2] at et3
    refine lv_aload_n hx hb d_Mo_pathOn_16 rfl (lv_at hl 1 rfl) ?_
    obtain ⟨t6, et6, et3⟩ := bS et3
    refine r_getR C hS fl_Mo_7 et6 d_Mo_pathOn_17 ?_
    refine lv_iload_n hx hb d_Mo_pathOn_20 rfl (lv_at hl 3 rfl) ?_
    obtain ⟨t7, et7, et3⟩ := bS et3
    refine r_iald C hS et7 d_Mo_pathOn_21 ?_
    refine lv_goto (tgt := 36) hx hb d_Mo_pathOn_22 (by decide) ?_
    obtain rfl := Option.some.inj et3
    exact kJ36_1 _ _ _ hS (lv_sub hl [] rfl)
theorem c_Mo_pathOn (l : Launch) (base : Nat) (D : va_G) (cI cZ : ClassId) (h : Hp) (l0 : Nat) (l1 : Int32) (l2 : Int32) {r : Int32} (hM : f_Mo_pathOn h l0 l1 l2 = some r) : Ct l base D cI cZ y_Mo_pathOn b_Mo_pathOn 4 (some .int) 0 0 0 0 h [.ref (base + l0), .int l1, .int l2] h (some (.int r)) :=
  ct_of (by decide) (Nat.le_of_ble_eq_true rfl) (fun p e s m below meth c ls C hS hl => t_Mo_pathOn C hM _ _ _ hS hl)
theorem d_Mo_contentOn_0 : decode b_Mo_contentOn 0 = .ok (.aload_n 0, 1) := by decide +kernel
theorem d_Mo_contentOn_1 : decode b_Mo_contentOn 1 = .ok (.getfield 26, 3) := by decide +kernel
theorem d_Mo_contentOn_4 : decode b_Mo_contentOn 4 = .ok (.bipush 12, 2) := by decide +kernel
theorem d_Mo_contentOn_6 : decode b_Mo_contentOn 6 = .ok (.iload_n 1, 1) := by decide +kernel
theorem d_Mo_contentOn_7 : decode b_Mo_contentOn 7 = .ok (.imul, 1) := by decide +kernel
theorem d_Mo_contentOn_8 : decode b_Mo_contentOn 8 = .ok (.iload_n 2, 1) := by decide +kernel
theorem d_Mo_contentOn_9 : decode b_Mo_contentOn 9 = .ok (.iadd, 1) := by decide +kernel
theorem d_Mo_contentOn_10 : decode b_Mo_contentOn 10 = .ok (.iaload, 1) := by decide +kernel
theorem d_Mo_contentOn_11 : decode b_Mo_contentOn 11 = .ok (.istore_n 3, 1) := by decide +kernel
theorem d_Mo_contentOn_12 : decode b_Mo_contentOn 12 = .ok (.iload_n 3, 1) := by decide +kernel
theorem d_Mo_contentOn_13 : decode b_Mo_contentOn 13 = .ok (.ifCond .ge 12, 3) := by decide +kernel
theorem d_Mo_contentOn_16 : decode b_Mo_contentOn 16 = .ok (.aload_n 0, 1) := by decide +kernel
theorem d_Mo_contentOn_17 : decode b_Mo_contentOn 17 = .ok (.iconst 0, 1) := by decide +kernel
theorem d_Mo_contentOn_18 : decode b_Mo_contentOn 18 = .ok (.iload_n 2, 1) := by decide +kernel
theorem d_Mo_contentOn_19 : decode b_Mo_contentOn 19 = .ok (.invokevirtual 132, 3) := by decide +kernel
theorem d_Mo_contentOn_22 : decode b_Mo_contentOn 22 = .ok (.goto 9, 3) := by decide +kernel
theorem d_Mo_contentOn_25 : decode b_Mo_contentOn 25 = .ok (.aload_n 0, 1) := by decide +kernel
theorem d_Mo_contentOn_26 : decode b_Mo_contentOn 26 = .ok (.iload_n 1, 1) := by decide +kernel
theorem d_Mo_contentOn_27 : decode b_Mo_contentOn 27 = .ok (.iload_n 3, 1) := by decide +kernel
theorem d_Mo_contentOn_28 : decode b_Mo_contentOn 28 = .ok (.invokevirtual 132, 3) := by decide +kernel
theorem d_Mo_contentOn_31 : decode b_Mo_contentOn 31 = .ok (.ireturn, 1) := by decide +kernel
def f_Mo_contentOn (h : Hp) (l0 : Nat) (l1 : Int32) (l2 : Int32) : Option Int32 :=
  ck h 9 l0 (
    (gR h 9 l0 11).bind fun t1 =>
    (gA h false t1 (((12 : Int32) * l1) + l2)).bind fun t2 =>
    (
      if (0 : Int32) ≤ t2 then (
        (f_Mo_contentAt h l0 l1 t2).bind fun t4 =>
        some t4
      ) else (
        (f_Mo_contentAt h l0 (0 : Int32) l2).bind fun t5 =>
        some t5
      )
    ).bind fun t3 =>
    some t3
  )
theorem o_Mo_contentOn {h : Hp} {l0 : Nat} {l1 : Int32} {l2 : Int32} {r : Int32} (hM : f_Mo_contentOn h l0 l1 l2 = some r) : isO h 9 l0 = true := by
  unfold f_Mo_contentOn at hM
  exact (ck_some hM).1
set_option maxHeartbeats 4000000 in
set_option maxRecDepth 100000 in
theorem t_Mo_contentOn {h : Hp} {l0 : Nat} {l1 : Int32} {l2 : Int32} {r : Int32} (C : Cx base D cI cZ b_Mo_contentOn 4 "MovedFoldersModel" "contentOn" (some .int) p s m args meth c) (hM : f_Mo_contentOn h l0 l1 l2 = some r) (H : Heap) (locs : List Loc) (ls : Array Slot) (hS : RS base D cI cZ s H locs h) (hl : lv_has ls 4 [(0, .ref (base + l0)), (1, .int l1), (2, .int l2)]) : Wg l base D cI cZ 1 22 0 0 h (some (.int r)) p e s m args below meth c H locs 0 0 (F0 m 0 ls []) := by
  have hx := C.1
  have hb := C.2.1
  unfold f_Mo_contentOn at hM
  replace hM := (ck_some hM).2
  refine lv_aload_n hx hb d_Mo_contentOn_0 rfl (lv_at hl 0 rfl) ?_
  obtain ⟨t1, et1, hM⟩ := bS hM
  refine r_getR C hS fl_Mo_26 et1 d_Mo_contentOn_1 ?_
  refine lv_bipush (v := (12 : Int32)) hx hb d_Mo_contentOn_4 (by decide) ?_
  refine lv_iload_n hx hb d_Mo_contentOn_6 rfl (lv_at hl 1 rfl) ?_
  refine lv_imul hx hb d_Mo_contentOn_7 ?_
  refine lv_iload_n hx hb d_Mo_contentOn_8 rfl (lv_at hl 2 rfl) ?_
  refine lv_iadd hx hb d_Mo_contentOn_9 ?_
  obtain ⟨t2, et2, hM⟩ := bS hM
  refine r_iald C hS et2 d_Mo_contentOn_10 ?_
  refine lv_istore_n (lv' := [(3, .int t2), (0, .ref (base + l0)), (1, .int l1), (2, .int l2)]) hx hb d_Mo_contentOn_11 rfl hl (by decide) rfl (fun ls hl => ?_)
  refine lv_iload_n hx hb d_Mo_contentOn_12 rfl (lv_at hl 0 rfl) ?_
  obtain ⟨t3, et3, hM⟩ := bS hM
  have kJ31_1 : ∀ (H : Heap) (locs : List Loc) (ls : Array Slot), RS base D cI cZ s H locs h → lv_has ls 4 [] → Wg l base D cI cZ 1 22 0 0 h (some (.int r)) p e s m args below meth c H locs 0 0 (F0 m 31 ls [.int t3]) := by
    intro H locs ls hS hl
    obtain rfl := Option.some.inj hM
    exact r_iret C hS d_Mo_contentOn_31
  refine lv_if_ge (tgt := 25) hx hb d_Mo_contentOn_13 (by decide) (fun c13_2 => ?_) (fun c13_2 => ?_)
  · rw [if_pos c13_2] at et3
    refine lv_aload_n hx hb d_Mo_contentOn_25 rfl (lv_at hl 1 rfl) ?_
    refine lv_iload_n hx hb d_Mo_contentOn_26 rfl (lv_at hl 2 rfl) ?_
    refine lv_iload_n hx hb d_Mo_contentOn_27 rfl (lv_at hl 0 rfl) ?_
    obtain ⟨t4, et4, et3⟩ := bS et3
    refine r_callVi (x := t4) C hS cv_Mo_132 (c_Mo_contentAt l base D cI cZ h l0 l1 t2 et4) (o_Mo_contentAt et4) (rest := []) rfl hl.1 rfl (Nat.le_of_ble_eq_true rfl) ⟨(Nat.le_of_ble_eq_true rfl), (Nat.le_of_ble_eq_true rfl)⟩ ⟨(Nat.le_of_ble_eq_true rfl), (Nat.le_of_ble_eq_true rfl)⟩ d_Mo_contentOn_28 (fun H locs hS => ?_)
    obtain rfl := Option.some.inj et3
    exact kJ31_1 _ _ _ hS (lv_sub hl [] rfl)
  · rw [if_neg c13_2] at et3
    refine lv_aload_n hx hb d_Mo_contentOn_16 rfl (lv_at hl 1 rfl) ?_
    refine lv_iconst (v := (0 : Int32)) hx hb d_Mo_contentOn_17 (by decide) ?_
    refine lv_iload_n hx hb d_Mo_contentOn_18 rfl (lv_at hl 3 rfl) ?_
    obtain ⟨t5, et5, et3⟩ := bS et3
    refine r_callVi (x := t5) C hS cv_Mo_132 (c_Mo_contentAt l base D cI cZ h l0 (0 : Int32) l2 et5) (o_Mo_contentAt et5) (rest := []) rfl hl.1 rfl (Nat.le_of_ble_eq_true rfl) ⟨(Nat.le_of_ble_eq_true rfl), (Nat.le_of_ble_eq_true rfl)⟩ ⟨(Nat.le_of_ble_eq_true rfl), (Nat.le_of_ble_eq_true rfl)⟩ d_Mo_contentOn_19 (fun H locs hS => ?_)
    refine lv_goto (tgt := 31) hx hb d_Mo_contentOn_22 (by decide) ?_
    obtain rfl := Option.some.inj et3
    exact kJ31_1 _ _ _ hS (lv_sub hl [] rfl)
theorem c_Mo_contentOn (l : Launch) (base : Nat) (D : va_G) (cI cZ : ClassId) (h : Hp) (l0 : Nat) (l1 : Int32) (l2 : Int32) {r : Int32} (hM : f_Mo_contentOn h l0 l1 l2 = some r) : Ct l base D cI cZ y_Mo_contentOn b_Mo_contentOn 4 (some .int) 1 22 0 0 h [.ref (base + l0), .int l1, .int l2] h (some (.int r)) :=
  ct_of (by decide) (Nat.le_of_ble_eq_true rfl) (fun p e s m below meth c ls C hS hl => t_Mo_contentOn C hM _ _ _ hS hl)
theorem d_Mo_mergeOld_0 : decode b_Mo_mergeOld 0 = .ok (.aload_n 0, 1) := by decide +kernel
theorem d_Mo_mergeOld_1 : decode b_Mo_mergeOld 1 = .ok (.getfield 26, 3) := by decide +kernel
theorem d_Mo_mergeOld_4 : decode b_Mo_mergeOld 4 = .ok (.bipush 12, 2) := by decide +kernel
theorem d_Mo_mergeOld_6 : decode b_Mo_mergeOld 6 = .ok (.iload_n 1, 1) := by decide +kernel
theorem d_Mo_mergeOld_7 : decode b_Mo_mergeOld 7 = .ok (.iadd, 1) := by decide +kernel
theorem d_Mo_mergeOld_8 : decode b_Mo_mergeOld 8 = .ok (.iaload, 1) := by decide +kernel
theorem d_Mo_mergeOld_9 : decode b_Mo_mergeOld 9 = .ok (.ifCond .ge 7, 3) := by decide +kernel
theorem d_Mo_mergeOld_12 : decode b_Mo_mergeOld 12 = .ok (.iconst 1, 1) := by decide +kernel
theorem d_Mo_mergeOld_13 : decode b_Mo_mergeOld 13 = .ok (.goto 4, 3) := by decide +kernel
theorem d_Mo_mergeOld_16 : decode b_Mo_mergeOld 16 = .ok (.iconst 0, 1) := by decide +kernel
theorem d_Mo_mergeOld_17 : decode b_Mo_mergeOld 17 = .ok (.istore_n 2, 1) := by decide +kernel
theorem d_Mo_mergeOld_18 : decode b_Mo_mergeOld 18 = .ok (.aload_n 0, 1) := by decide +kernel
theorem d_Mo_mergeOld_19 : decode b_Mo_mergeOld 19 = .ok (.getfield 26, 3) := by decide +kernel
theorem d_Mo_mergeOld_22 : decode b_Mo_mergeOld 22 = .ok (.bipush 24, 2) := by decide +kernel
theorem d_Mo_mergeOld_24 : decode b_Mo_mergeOld 24 = .ok (.iload_n 1, 1) := by decide +kernel
theorem d_Mo_mergeOld_25 : decode b_Mo_mergeOld 25 = .ok (.iadd, 1) := by decide +kernel
theorem d_Mo_mergeOld_26 : decode b_Mo_mergeOld 26 = .ok (.iaload, 1) := by decide +kernel
theorem d_Mo_mergeOld_27 : decode b_Mo_mergeOld 27 = .ok (.ifCond .ge 7, 3) := by decide +kernel
theorem d_Mo_mergeOld_30 : decode b_Mo_mergeOld 30 = .ok (.iconst 1, 1) := by decide +kernel
theorem d_Mo_mergeOld_31 : decode b_Mo_mergeOld 31 = .ok (.goto 4, 3) := by decide +kernel
theorem d_Mo_mergeOld_34 : decode b_Mo_mergeOld 34 = .ok (.iconst 0, 1) := by decide +kernel
theorem d_Mo_mergeOld_35 : decode b_Mo_mergeOld 35 = .ok (.istore_n 3, 1) := by decide +kernel
theorem d_Mo_mergeOld_36 : decode b_Mo_mergeOld 36 = .ok (.iload_n 2, 1) := by decide +kernel
theorem d_Mo_mergeOld_37 : decode b_Mo_mergeOld 37 = .ok (.ifCond .eq 7, 3) := by decide +kernel
theorem d_Mo_mergeOld_40 : decode b_Mo_mergeOld 40 = .ok (.iload_n 3, 1) := by decide +kernel
theorem d_Mo_mergeOld_41 : decode b_Mo_mergeOld 41 = .ok (.ifCond .ne 29, 3) := by decide +kernel
theorem d_Mo_mergeOld_44 : decode b_Mo_mergeOld 44 = .ok (.iload_n 2, 1) := by decide +kernel
theorem d_Mo_mergeOld_45 : decode b_Mo_mergeOld 45 = .ok (.ifCond .eq 12, 3) := by decide +kernel
theorem d_Mo_mergeOld_48 : decode b_Mo_mergeOld 48 = .ok (.aload_n 0, 1) := by decide +kernel
theorem d_Mo_mergeOld_49 : decode b_Mo_mergeOld 49 = .ok (.iconst 2, 1) := by decide +kernel
theorem d_Mo_mergeOld_50 : decode b_Mo_mergeOld 50 = .ok (.iload_n 1, 1) := by decide +kernel
theorem d_Mo_mergeOld_51 : decode b_Mo_mergeOld 51 = .ok (.invokevirtual 228, 3) := by decide +kernel
theorem d_Mo_mergeOld_54 : decode b_Mo_mergeOld 54 = .ok (.ifCond .ne 16, 3) := by decide +kernel
theorem d_Mo_mergeOld_57 : decode b_Mo_mergeOld 57 = .ok (.iload_n 3, 1) := by decide +kernel
theorem d_Mo_mergeOld_58 : decode b_Mo_mergeOld 58 = .ok (.ifCond .eq 13, 3) := by decide +kernel
theorem d_Mo_mergeOld_61 : decode b_Mo_mergeOld 61 = .ok (.aload_n 0, 1) := by decide +kernel
theorem d_Mo_mergeOld_62 : decode b_Mo_mergeOld 62 = .ok (.iconst 1, 1) := by decide +kernel
theorem d_Mo_mergeOld_63 : decode b_Mo_mergeOld 63 = .ok (.iload_n 1, 1) := by decide +kernel
theorem d_Mo_mergeOld_64 : decode b_Mo_mergeOld 64 = .ok (.invokevirtual 228, 3) := by decide +kernel
theorem d_Mo_mergeOld_67 : decode b_Mo_mergeOld 67 = .ok (.ifCond .eq 4, 3) := by decide +kernel
theorem d_Mo_mergeOld_70 : decode b_Mo_mergeOld 70 = .ok (.return_, 1) := by decide +kernel
theorem d_Mo_mergeOld_71 : decode b_Mo_mergeOld 71 = .ok (.aload_n 0, 1) := by decide +kernel
theorem d_Mo_mergeOld_72 : decode b_Mo_mergeOld 72 = .ok (.iload_n 2, 1) := by decide +kernel
theorem d_Mo_mergeOld_73 : decode b_Mo_mergeOld 73 = .ok (.ifCond .ne 7, 3) := by decide +kernel
theorem d_Mo_mergeOld_76 : decode b_Mo_mergeOld 76 = .ok (.iload_n 3, 1) := by decide +kernel
theorem d_Mo_mergeOld_77 : decode b_Mo_mergeOld 77 = .ok (.ifCond .eq 7, 3) := by decide +kernel
theorem d_Mo_mergeOld_80 : decode b_Mo_mergeOld 80 = .ok (.iconst 2, 1) := by decide +kernel
theorem d_Mo_mergeOld_81 : decode b_Mo_mergeOld 81 = .ok (.goto 4, 3) := by decide +kernel
theorem d_Mo_mergeOld_84 : decode b_Mo_mergeOld 84 = .ok (.iconst 0, 1) := by decide +kernel
theorem d_Mo_mergeOld_85 : decode b_Mo_mergeOld 85 = .ok (.putfield 222, 3) := by decide +kernel
theorem d_Mo_mergeOld_88 : decode b_Mo_mergeOld 88 = .ok (.aload_n 0, 1) := by decide +kernel
theorem d_Mo_mergeOld_89 : decode b_Mo_mergeOld 89 = .ok (.aload_n 0, 1) := by decide +kernel
theorem d_Mo_mergeOld_90 : decode b_Mo_mergeOld 90 = .ok (.getfield 7, 3) := by decide +kernel
theorem d_Mo_mergeOld_93 : decode b_Mo_mergeOld 93 = .ok (.iload_n 1, 1) := by decide +kernel
theorem d_Mo_mergeOld_94 : decode b_Mo_mergeOld 94 = .ok (.iaload, 1) := by decide +kernel
theorem d_Mo_mergeOld_95 : decode b_Mo_mergeOld 95 = .ok (.bipush 10, 2) := by decide +kernel
theorem d_Mo_mergeOld_97 : decode b_Mo_mergeOld 97 = .ok (.idiv, 1) := by decide +kernel
theorem d_Mo_mergeOld_98 : decode b_Mo_mergeOld 98 = .ok (.aload_n 0, 1) := by decide +kernel
theorem d_Mo_mergeOld_99 : decode b_Mo_mergeOld 99 = .ok (.iconst 1, 1) := by decide +kernel
theorem d_Mo_mergeOld_100 : decode b_Mo_mergeOld 100 = .ok (.iload_n 1, 1) := by decide +kernel
theorem d_Mo_mergeOld_101 : decode b_Mo_mergeOld 101 = .ok (.invokevirtual 231, 3) := by decide +kernel
theorem d_Mo_mergeOld_104 : decode b_Mo_mergeOld 104 = .ok (.bipush 10, 2) := by decide +kernel
theorem d_Mo_mergeOld_106 : decode b_Mo_mergeOld 106 = .ok (.idiv, 1) := by decide +kernel
theorem d_Mo_mergeOld_107 : decode b_Mo_mergeOld 107 = .ok (.aload_n 0, 1) := by decide +kernel
theorem d_Mo_mergeOld_108 : decode b_Mo_mergeOld 108 = .ok (.iconst 2, 1) := by decide +kernel
theorem d_Mo_mergeOld_109 : decode b_Mo_mergeOld 109 = .ok (.iload_n 1, 1) := by decide +kernel
theorem d_Mo_mergeOld_110 : decode b_Mo_mergeOld 110 = .ok (.invokevirtual 231, 3) := by decide +kernel
theorem d_Mo_mergeOld_113 : decode b_Mo_mergeOld 113 = .ok (.bipush 10, 2) := by decide +kernel
theorem d_Mo_mergeOld_115 : decode b_Mo_mergeOld 115 = .ok (.idiv, 1) := by decide +kernel
theorem d_Mo_mergeOld_116 : decode b_Mo_mergeOld 116 = .ok (.invokevirtual 234, 3) := by decide +kernel
theorem d_Mo_mergeOld_119 : decode b_Mo_mergeOld 119 = .ok (.istore 4, 2) := by decide +kernel
theorem d_Mo_mergeOld_121 : decode b_Mo_mergeOld 121 = .ok (.aload_n 0, 1) := by decide +kernel
theorem d_Mo_mergeOld_122 : decode b_Mo_mergeOld 122 = .ok (.aload_n 0, 1) := by decide +kernel
theorem d_Mo_mergeOld_123 : decode b_Mo_mergeOld 123 = .ok (.getfield 7, 3) := by decide +kernel
theorem d_Mo_mergeOld_126 : decode b_Mo_mergeOld 126 = .ok (.iload_n 1, 1) := by decide +kernel
theorem d_Mo_mergeOld_127 : decode b_Mo_mergeOld 127 = .ok (.iaload, 1) := by decide +kernel
theorem d_Mo_mergeOld_128 : decode b_Mo_mergeOld 128 = .ok (.bipush 10, 2) := by decide +kernel
theorem d_Mo_mergeOld_130 : decode b_Mo_mergeOld 130 = .ok (.irem, 1) := by decide +kernel
theorem d_Mo_mergeOld_131 : decode b_Mo_mergeOld 131 = .ok (.aload_n 0, 1) := by decide +kernel
theorem d_Mo_mergeOld_132 : decode b_Mo_mergeOld 132 = .ok (.iconst 1, 1) := by decide +kernel
theorem d_Mo_mergeOld_133 : decode b_Mo_mergeOld 133 = .ok (.iload_n 1, 1) := by decide +kernel
theorem d_Mo_mergeOld_134 : decode b_Mo_mergeOld 134 = .ok (.invokevirtual 231, 3) := by decide +kernel
theorem d_Mo_mergeOld_137 : decode b_Mo_mergeOld 137 = .ok (.bipush 10, 2) := by decide +kernel
theorem d_Mo_mergeOld_139 : decode b_Mo_mergeOld 139 = .ok (.irem, 1) := by decide +kernel
theorem d_Mo_mergeOld_140 : decode b_Mo_mergeOld 140 = .ok (.aload_n 0, 1) := by decide +kernel
theorem d_Mo_mergeOld_141 : decode b_Mo_mergeOld 141 = .ok (.iconst 2, 1) := by decide +kernel
theorem d_Mo_mergeOld_142 : decode b_Mo_mergeOld 142 = .ok (.iload_n 1, 1) := by decide +kernel
theorem d_Mo_mergeOld_143 : decode b_Mo_mergeOld 143 = .ok (.invokevirtual 231, 3) := by decide +kernel
theorem d_Mo_mergeOld_146 : decode b_Mo_mergeOld 146 = .ok (.bipush 10, 2) := by decide +kernel
theorem d_Mo_mergeOld_148 : decode b_Mo_mergeOld 148 = .ok (.irem, 1) := by decide +kernel
theorem d_Mo_mergeOld_149 : decode b_Mo_mergeOld 149 = .ok (.iconst 1, 1) := by decide +kernel
theorem d_Mo_mergeOld_150 : decode b_Mo_mergeOld 150 = .ok (.invokevirtual 225, 3) := by decide +kernel
theorem d_Mo_mergeOld_153 : decode b_Mo_mergeOld 153 = .ok (.istore 5, 2) := by decide +kernel
theorem d_Mo_mergeOld_155 : decode b_Mo_mergeOld 155 = .ok (.aload_n 0, 1) := by decide +kernel
theorem d_Mo_mergeOld_156 : decode b_Mo_mergeOld 156 = .ok (.aload_n 0, 1) := by decide +kernel
theorem d_Mo_mergeOld_157 : decode b_Mo_mergeOld 157 = .ok (.iconst 0, 1) := by decide +kernel
theorem d_Mo_mergeOld_158 : decode b_Mo_mergeOld 158 = .ok (.iload_n 1, 1) := by decide +kernel
theorem d_Mo_mergeOld_159 : decode b_Mo_mergeOld 159 = .ok (.invokevirtual 132, 3) := by decide +kernel
theorem d_Mo_mergeOld_162 : decode b_Mo_mergeOld 162 = .ok (.aload_n 0, 1) := by decide +kernel
theorem d_Mo_mergeOld_163 : decode b_Mo_mergeOld 163 = .ok (.iconst 1, 1) := by decide +kernel
theorem d_Mo_mergeOld_164 : decode b_Mo_mergeOld 164 = .ok (.iload_n 1, 1) := by decide +kernel
theorem d_Mo_mergeOld_165 : decode b_Mo_mergeOld 165 = .ok (.invokevirtual 237, 3) := by decide +kernel
theorem d_Mo_mergeOld_168 : decode b_Mo_mergeOld 168 = .ok (.aload_n 0, 1) := by decide +kernel
theorem d_Mo_mergeOld_169 : decode b_Mo_mergeOld 169 = .ok (.iconst 2, 1) := by decide +kernel
theorem d_Mo_mergeOld_170 : decode b_Mo_mergeOld 170 = .ok (.iload_n 1, 1) := by decide +kernel
theorem d_Mo_mergeOld_171 : decode b_Mo_mergeOld 171 = .ok (.invokevirtual 237, 3) := by decide +kernel
theorem d_Mo_mergeOld_174 : decode b_Mo_mergeOld 174 = .ok (.invokevirtual 240, 3) := by decide +kernel
theorem d_Mo_mergeOld_177 : decode b_Mo_mergeOld 177 = .ok (.istore 6, 2) := by decide +kernel
theorem d_Mo_mergeOld_179 : decode b_Mo_mergeOld 179 = .ok (.aload_n 0, 1) := by decide +kernel
theorem d_Mo_mergeOld_180 : decode b_Mo_mergeOld 180 = .ok (.bipush 10, 2) := by decide +kernel
theorem d_Mo_mergeOld_182 : decode b_Mo_mergeOld 182 = .ok (.iload 4, 2) := by decide +kernel
theorem d_Mo_mergeOld_184 : decode b_Mo_mergeOld 184 = .ok (.imul, 1) := by decide +kernel
theorem d_Mo_mergeOld_185 : decode b_Mo_mergeOld 185 = .ok (.iload 5, 2) := by decide +kernel
theorem d_Mo_mergeOld_187 : decode b_Mo_mergeOld 187 = .ok (.iadd, 1) := by decide +kernel
theorem d_Mo_mergeOld_188 : decode b_Mo_mergeOld 188 = .ok (.iload 6, 2) := by decide +kernel
theorem d_Mo_mergeOld_190 : decode b_Mo_mergeOld 190 = .ok (.aload_n 0, 1) := by decide +kernel
theorem d_Mo_mergeOld_191 : decode b_Mo_mergeOld 191 = .ok (.getfield 222, 3) := by decide +kernel
theorem d_Mo_mergeOld_194 : decode b_Mo_mergeOld 194 = .ok (.iload_n 1, 1) := by decide +kernel
theorem d_Mo_mergeOld_195 : decode b_Mo_mergeOld 195 = .ok (.invokevirtual 243, 3) := by decide +kernel
theorem d_Mo_mergeOld_198 : decode b_Mo_mergeOld 198 = .ok (.return_, 1) := by decide +kernel
def f_Mo_mergeOld_71 (h : Hp) (l0 : Nat) (l1 : Int32) (l2 : Int32) (l3 : Int32) : Option Hp :=
  (sI h 9 l0 21 (if l2 = (0 : Int32) then (if l3 = (0 : Int32) then ((0 : Int32)) else ((2 : Int32))) else ((2 : Int32)))).bind fun h5 =>
  (gR h5 9 l0 0).bind fun t6 =>
  (gA h5 false t6 l1).bind fun t7 =>
  (f_Mo_pathOn h5 l0 (1 : Int32) l1).bind fun t8 =>
  (f_Mo_pathOn h5 l0 (2 : Int32) l1).bind fun t9 =>
  (f_Mo_folderOf h5 l0 (t7 / (10 : Int32)) (t8 / (10 : Int32)) (t9 / (10 : Int32))).bind fun q10 =>
  (gR q10.2 9 l0 0).bind fun t11 =>
  (gA q10.2 false t11 l1).bind fun t12 =>
  (f_Mo_pathOn q10.2 l0 (1 : Int32) l1).bind fun t13 =>
  (f_Mo_pathOn q10.2 l0 (2 : Int32) l1).bind fun t14 =>
  (f_Mo_oneOf q10.2 l0 (irem t12 (10 : Int32)) (irem t13 (10 : Int32)) (irem t14 (10 : Int32)) (1 : Int32)).bind fun q15 =>
  (f_Mo_contentAt q15.2 l0 (0 : Int32) l1).bind fun t16 =>
  (f_Mo_contentOn q15.2 l0 (1 : Int32) l1).bind fun t17 =>
  (f_Mo_contentOn q15.2 l0 (2 : Int32) l1).bind fun t18 =>
  (f_Mo_contentOf q15.2 l0 t16 t17 t18).bind fun q19 =>
  (gI q19.2 9 l0 21).bind fun t20 =>
  (f_Mo_addEntry q19.2 l0 (((10 : Int32) * q10.1) + q15.1) q19.1 t20 l1).bind fun h21 =>
  some h21
set_option maxHeartbeats 4000000 in
set_option maxRecDepth 100000 in
theorem t_Mo_mergeOld_71 {h : Hp} {l0 : Nat} {l1 : Int32} {l2 : Int32} {l3 : Int32} {r : Hp} (C : Cx base D cI cZ b_Mo_mergeOld 7 "MovedFoldersModel" "mergeOld" none p s m args meth c)  (hM : f_Mo_mergeOld_71 h l0 l1 l2 l3 = some r) (H : Heap) (locs : List Loc) (ls : Array Slot) (hS : RS base D cI cZ s H locs h) (hl : lv_has ls 7 [(0, .ref (base + l0)), (1, .int l1), (2, .int l2), (3, .int l3)]) : Wg l base D cI cZ 5 114 0 0 r none p e s m args below meth c H locs 0 0 (F0 m 71 ls []) := by
  have hx := C.1
  have hb := C.2.1
  unfold f_Mo_mergeOld_71 at hM
  refine lv_aload_n hx hb d_Mo_mergeOld_71 rfl (lv_at hl 0 rfl) ?_
  refine lv_iload_n hx hb d_Mo_mergeOld_72 rfl (lv_at hl 2 rfl) ?_
  have kJ85_8 : ∀ (H : Heap) (locs : List Loc) (ls : Array Slot), RS base D cI cZ s H locs h → lv_has ls 7 [(0, .ref (base + l0)), (1, .int l1)] → Wg l base D cI cZ 5 114 0 0 r none p e s m args below meth c H locs 0 0 (F0 m 85 ls [.int (if l2 = (0 : Int32) then (if l3 = (0 : Int32) then ((0 : Int32)) else ((2 : Int32))) else ((2 : Int32))), .ref (base + l0)]) := by
    intro H locs ls hS hl
    obtain ⟨h5, eh5, hM⟩ := bS hM
    refine r_putI C hS fp_Mo_222 eh5 d_Mo_mergeOld_85 (fun H locs hS => ?_)
    refine lv_aload_n hx hb d_Mo_mergeOld_88 rfl (lv_at hl 0 rfl) ?_
    refine lv_aload_n hx hb d_Mo_mergeOld_89 rfl (lv_at hl 0 rfl) ?_
    obtain ⟨t6, et6, hM⟩ := bS hM
    refine r_getR C hS fl_Mo_7 et6 d_Mo_mergeOld_90 ?_
    refine lv_iload_n hx hb d_Mo_mergeOld_93 rfl (lv_at hl 1 rfl) ?_
    obtain ⟨t7, et7, hM⟩ := bS hM
    refine r_iald C hS et7 d_Mo_mergeOld_94 ?_
    refine lv_bipush (v := (10 : Int32)) hx hb d_Mo_mergeOld_95 (by decide) ?_
    refine lv_idiv hx hb d_Mo_mergeOld_97 (by decide) ?_
    refine lv_aload_n hx hb d_Mo_mergeOld_98 rfl (lv_at hl 0 rfl) ?_
    refine lv_iconst (v := (1 : Int32)) hx hb d_Mo_mergeOld_99 (by decide) ?_
    refine lv_iload_n hx hb d_Mo_mergeOld_100 rfl (lv_at hl 1 rfl) ?_
    obtain ⟨t8, et8, hM⟩ := bS hM
    refine r_callVi (x := t8) C hS cv_Mo_231 (c_Mo_pathOn l base D cI cZ h5 l0 (1 : Int32) l1 et8) (o_Mo_pathOn et8) (rest := [.int (t7 / (10 : Int32)), .ref (base + l0)]) rfl hl.1 rfl (Nat.le_of_ble_eq_true rfl) ⟨(Nat.le_of_ble_eq_true rfl), (Nat.le_of_ble_eq_true rfl)⟩ ⟨(Nat.le_of_ble_eq_true rfl), (Nat.le_of_ble_eq_true rfl)⟩ d_Mo_mergeOld_101 (fun H locs hS => ?_)
    refine lv_bipush (v := (10 : Int32)) hx hb d_Mo_mergeOld_104 (by decide) ?_
    refine lv_idiv hx hb d_Mo_mergeOld_106 (by decide) ?_
    refine lv_aload_n hx hb d_Mo_mergeOld_107 rfl (lv_at hl 0 rfl) ?_
    refine lv_iconst (v := (2 : Int32)) hx hb d_Mo_mergeOld_108 (by decide) ?_
    refine lv_iload_n hx hb d_Mo_mergeOld_109 rfl (lv_at hl 1 rfl) ?_
    obtain ⟨t9, et9, hM⟩ := bS hM
    refine r_callVi (x := t9) C hS cv_Mo_231 (c_Mo_pathOn l base D cI cZ h5 l0 (2 : Int32) l1 et9) (o_Mo_pathOn et9) (rest := [.int (t8 / (10 : Int32)), .int (t7 / (10 : Int32)), .ref (base + l0)]) rfl hl.1 rfl (Nat.le_of_ble_eq_true rfl) ⟨(Nat.le_of_ble_eq_true rfl), (Nat.le_of_ble_eq_true rfl)⟩ ⟨(Nat.le_of_ble_eq_true rfl), (Nat.le_of_ble_eq_true rfl)⟩ d_Mo_mergeOld_110 (fun H locs hS => ?_)
    refine lv_bipush (v := (10 : Int32)) hx hb d_Mo_mergeOld_113 (by decide) ?_
    refine lv_idiv hx hb d_Mo_mergeOld_115 (by decide) ?_
    obtain ⟨q10, eq10, hM⟩ := bS hM
    refine r_callVi (x := q10.1) C hS cv_Mo_234 (c_Mo_folderOf l base D cI cZ h5 l0 (t7 / (10 : Int32)) (t8 / (10 : Int32)) (t9 / (10 : Int32)) eq10) (o_Mo_folderOf eq10) (rest := []) rfl hl.1 rfl (Nat.le_of_ble_eq_true rfl) ⟨(Nat.le_of_ble_eq_true rfl), (Nat.le_of_ble_eq_true rfl)⟩ ⟨(Nat.le_of_ble_eq_true rfl), (Nat.le_of_ble_eq_true rfl)⟩ d_Mo_mergeOld_116 (fun H locs hS => ?_)
    refine lv_istore (lv' := [(4, .int q10.1), (0, .ref (base + l0)), (1, .int l1)]) hx hb d_Mo_mergeOld_119 hl (by decide) rfl (fun ls hl => ?_)
    refine lv_aload_n hx hb d_Mo_mergeOld_121 rfl (lv_at hl 1 rfl) ?_
    refine lv_aload_n hx hb d_Mo_mergeOld_122 rfl (lv_at hl 1 rfl) ?_
    obtain ⟨t11, et11, hM⟩ := bS hM
    refine r_getR C hS fl_Mo_7 et11 d_Mo_mergeOld_123 ?_
    refine lv_iload_n hx hb d_Mo_mergeOld_126 rfl (lv_at hl 2 rfl) ?_
    obtain ⟨t12, et12, hM⟩ := bS hM
    refine r_iald C hS et12 d_Mo_mergeOld_127 ?_
    refine lv_bipush (v := (10 : Int32)) hx hb d_Mo_mergeOld_128 (by decide) ?_
    refine r_irem hx hb d_Mo_mergeOld_130 (by decide) ?_
    refine lv_aload_n hx hb d_Mo_mergeOld_131 rfl (lv_at hl 1 rfl) ?_
    refine lv_iconst (v := (1 : Int32)) hx hb d_Mo_mergeOld_132 (by decide) ?_
    refine lv_iload_n hx hb d_Mo_mergeOld_133 rfl (lv_at hl 2 rfl) ?_
    obtain ⟨t13, et13, hM⟩ := bS hM
    refine r_callVi (x := t13) C hS cv_Mo_231 (c_Mo_pathOn l base D cI cZ q10.2 l0 (1 : Int32) l1 et13) (o_Mo_pathOn et13) (rest := [.int (irem t12 (10 : Int32)), .ref (base + l0)]) rfl hl.1 rfl (Nat.le_of_ble_eq_true rfl) ⟨(Nat.le_of_ble_eq_true rfl), (Nat.le_of_ble_eq_true rfl)⟩ ⟨(Nat.le_of_ble_eq_true rfl), (Nat.le_of_ble_eq_true rfl)⟩ d_Mo_mergeOld_134 (fun H locs hS => ?_)
    refine lv_bipush (v := (10 : Int32)) hx hb d_Mo_mergeOld_137 (by decide) ?_
    refine r_irem hx hb d_Mo_mergeOld_139 (by decide) ?_
    refine lv_aload_n hx hb d_Mo_mergeOld_140 rfl (lv_at hl 1 rfl) ?_
    refine lv_iconst (v := (2 : Int32)) hx hb d_Mo_mergeOld_141 (by decide) ?_
    refine lv_iload_n hx hb d_Mo_mergeOld_142 rfl (lv_at hl 2 rfl) ?_
    obtain ⟨t14, et14, hM⟩ := bS hM
    refine r_callVi (x := t14) C hS cv_Mo_231 (c_Mo_pathOn l base D cI cZ q10.2 l0 (2 : Int32) l1 et14) (o_Mo_pathOn et14) (rest := [.int (irem t13 (10 : Int32)), .int (irem t12 (10 : Int32)), .ref (base + l0)]) rfl hl.1 rfl (Nat.le_of_ble_eq_true rfl) ⟨(Nat.le_of_ble_eq_true rfl), (Nat.le_of_ble_eq_true rfl)⟩ ⟨(Nat.le_of_ble_eq_true rfl), (Nat.le_of_ble_eq_true rfl)⟩ d_Mo_mergeOld_143 (fun H locs hS => ?_)
    refine lv_bipush (v := (10 : Int32)) hx hb d_Mo_mergeOld_146 (by decide) ?_
    refine r_irem hx hb d_Mo_mergeOld_148 (by decide) ?_
    refine lv_iconst (v := (1 : Int32)) hx hb d_Mo_mergeOld_149 (by decide) ?_
    obtain ⟨q15, eq15, hM⟩ := bS hM
    refine r_callVi (x := q15.1) C hS cv_Mo_225 (c_Mo_oneOf l base D cI cZ q10.2 l0 (irem t12 (10 : Int32)) (irem t13 (10 : Int32)) (irem t14 (10 : Int32)) (1 : Int32) eq15) (o_Mo_oneOf eq15) (rest := []) rfl hl.1 rfl (Nat.le_of_ble_eq_true rfl) ⟨(Nat.le_of_ble_eq_true rfl), (Nat.le_of_ble_eq_true rfl)⟩ ⟨(Nat.le_of_ble_eq_true rfl), (Nat.le_of_ble_eq_true rfl)⟩ d_Mo_mergeOld_150 (fun H locs hS => ?_)
    refine lv_istore (lv' := [(5, .int q15.1), (4, .int q10.1), (0, .ref (base + l0)), (1, .int l1)]) hx hb d_Mo_mergeOld_153 hl (by decide) rfl (fun ls hl => ?_)
    refine lv_aload_n hx hb d_Mo_mergeOld_155 rfl (lv_at hl 2 rfl) ?_
    refine lv_aload_n hx hb d_Mo_mergeOld_156 rfl (lv_at hl 2 rfl) ?_
    refine lv_iconst (v := (0 : Int32)) hx hb d_Mo_mergeOld_157 (by decide) ?_
    refine lv_iload_n hx hb d_Mo_mergeOld_158 rfl (lv_at hl 3 rfl) ?_
    obtain ⟨t16, et16, hM⟩ := bS hM
    refine r_callVi (x := t16) C hS cv_Mo_132 (c_Mo_contentAt l base D cI cZ q15.2 l0 (0 : Int32) l1 et16) (o_Mo_contentAt et16) (rest := [.ref (base + l0)]) rfl hl.1 rfl (Nat.le_of_ble_eq_true rfl) ⟨(Nat.le_of_ble_eq_true rfl), (Nat.le_of_ble_eq_true rfl)⟩ ⟨(Nat.le_of_ble_eq_true rfl), (Nat.le_of_ble_eq_true rfl)⟩ d_Mo_mergeOld_159 (fun H locs hS => ?_)
    refine lv_aload_n hx hb d_Mo_mergeOld_162 rfl (lv_at hl 2 rfl) ?_
    refine lv_iconst (v := (1 : Int32)) hx hb d_Mo_mergeOld_163 (by decide) ?_
    refine lv_iload_n hx hb d_Mo_mergeOld_164 rfl (lv_at hl 3 rfl) ?_
    obtain ⟨t17, et17, hM⟩ := bS hM
    refine r_callVi (x := t17) C hS cv_Mo_237 (c_Mo_contentOn l base D cI cZ q15.2 l0 (1 : Int32) l1 et17) (o_Mo_contentOn et17) (rest := [.int t16, .ref (base + l0)]) rfl hl.1 rfl (Nat.le_of_ble_eq_true rfl) ⟨(Nat.le_of_ble_eq_true rfl), (Nat.le_of_ble_eq_true rfl)⟩ ⟨(Nat.le_of_ble_eq_true rfl), (Nat.le_of_ble_eq_true rfl)⟩ d_Mo_mergeOld_165 (fun H locs hS => ?_)
    refine lv_aload_n hx hb d_Mo_mergeOld_168 rfl (lv_at hl 2 rfl) ?_
    refine lv_iconst (v := (2 : Int32)) hx hb d_Mo_mergeOld_169 (by decide) ?_
    refine lv_iload_n hx hb d_Mo_mergeOld_170 rfl (lv_at hl 3 rfl) ?_
    obtain ⟨t18, et18, hM⟩ := bS hM
    refine r_callVi (x := t18) C hS cv_Mo_237 (c_Mo_contentOn l base D cI cZ q15.2 l0 (2 : Int32) l1 et18) (o_Mo_contentOn et18) (rest := [.int t17, .int t16, .ref (base + l0)]) rfl hl.1 rfl (Nat.le_of_ble_eq_true rfl) ⟨(Nat.le_of_ble_eq_true rfl), (Nat.le_of_ble_eq_true rfl)⟩ ⟨(Nat.le_of_ble_eq_true rfl), (Nat.le_of_ble_eq_true rfl)⟩ d_Mo_mergeOld_171 (fun H locs hS => ?_)
    obtain ⟨q19, eq19, hM⟩ := bS hM
    refine r_callVi (x := q19.1) C hS cv_Mo_240 (c_Mo_contentOf l base D cI cZ q15.2 l0 t16 t17 t18 eq19) (o_Mo_contentOf eq19) (rest := []) rfl hl.1 rfl (Nat.le_of_ble_eq_true rfl) ⟨(Nat.le_of_ble_eq_true rfl), (Nat.le_of_ble_eq_true rfl)⟩ ⟨(Nat.le_of_ble_eq_true rfl), (Nat.le_of_ble_eq_true rfl)⟩ d_Mo_mergeOld_174 (fun H locs hS => ?_)
    refine lv_istore (lv' := [(6, .int q19.1), (5, .int q15.1), (4, .int q10.1), (0, .ref (base + l0)), (1, .int l1)]) hx hb d_Mo_mergeOld_177 hl (by decide) rfl (fun ls hl => ?_)
    refine lv_aload_n hx hb d_Mo_mergeOld_179 rfl (lv_at hl 3 rfl) ?_
    refine lv_bipush (v := (10 : Int32)) hx hb d_Mo_mergeOld_180 (by decide) ?_
    refine lv_iload hx hb d_Mo_mergeOld_182 (lv_at hl 2 rfl) ?_
    refine lv_imul hx hb d_Mo_mergeOld_184 ?_
    refine lv_iload hx hb d_Mo_mergeOld_185 (lv_at hl 1 rfl) ?_
    refine lv_iadd hx hb d_Mo_mergeOld_187 ?_
    refine lv_iload hx hb d_Mo_mergeOld_188 (lv_at hl 0 rfl) ?_
    refine lv_aload_n hx hb d_Mo_mergeOld_190 rfl (lv_at hl 3 rfl) ?_
    obtain ⟨t20, et20, hM⟩ := bS hM
    refine r_getI C hS fl_Mo_222 et20 d_Mo_mergeOld_191 ?_
    refine lv_iload_n hx hb d_Mo_mergeOld_194 rfl (lv_at hl 4 rfl) ?_
    obtain ⟨h21, eh21, hM⟩ := bS hM
    refine r_callVv C hS cv_Mo_243 (c_Mo_addEntry l base D cI cZ q19.2 l0 (((10 : Int32) * q10.1) + q15.1) q19.1 t20 l1 eh21) (o_Mo_addEntry eh21) (rest := []) rfl hl.1 rfl (Nat.le_of_ble_eq_true rfl) ⟨(Nat.le_of_ble_eq_true rfl), (Nat.le_of_ble_eq_true rfl)⟩ ⟨(Nat.le_of_ble_eq_true rfl), (Nat.le_of_ble_eq_true rfl)⟩ d_Mo_mergeOld_195 (fun H locs hS => ?_)
    obtain rfl := Option.some.inj hM
    exact r_vret C hS d_Mo_mergeOld_198
  refine lv_if_ne (tgt := 80) hx hb d_Mo_mergeOld_73 (by decide) (fun c73_9 => ?_) (fun c73_9 => ?_)
  · rw [if_neg c73_9] at kJ85_8
    refine lv_iconst (v := (2 : Int32)) hx hb d_Mo_mergeOld_80 (by decide) ?_
    refine lv_goto (tgt := 85) hx hb d_Mo_mergeOld_81 (by decide) ?_
    exact kJ85_8 _ _ _ hS (lv_sub hl [0, 1] rfl)
  · rw [if_pos c73_9] at kJ85_8
    refine lv_iload_n hx hb d_Mo_mergeOld_76 rfl (lv_at hl 3 rfl) ?_
    refine lv_if_eq (tgt := 84) hx hb d_Mo_mergeOld_77 (by decide) (fun c77_10 => ?_) (fun c77_10 => ?_)
    · rw [if_pos c77_10] at kJ85_8
      refine lv_iconst (v := (0 : Int32)) hx hb d_Mo_mergeOld_84 (by decide) ?_
      exact kJ85_8 _ _ _ hS (lv_sub hl [0, 1] rfl)
    · rw [if_neg c77_10] at kJ85_8
      refine lv_iconst (v := (2 : Int32)) hx hb d_Mo_mergeOld_80 (by decide) ?_
      refine lv_goto (tgt := 85) hx hb d_Mo_mergeOld_81 (by decide) ?_
      exact kJ85_8 _ _ _ hS (lv_sub hl [0, 1] rfl)
def f_Mo_mergeOld_57 (h : Hp) (l0 : Nat) (l1 : Int32) (l2 : Int32) (l3 : Int32) : Option Hp :=
  if l3 = (0 : Int32) then (
    f_Mo_mergeOld_71 h l0 l1 l2 l3
  ) else (
    (f_Mo_isAsBase h l0 (1 : Int32) l1).bind fun t22 =>
    if t22 = (0 : Int32) then (
      f_Mo_mergeOld_71 h l0 l1 l2 l3
    ) else (
      some h
    )
  )
set_option maxHeartbeats 4000000 in
set_option maxRecDepth 100000 in
theorem t_Mo_mergeOld_57 {h : Hp} {l0 : Nat} {l1 : Int32} {l2 : Int32} {l3 : Int32} {r : Hp} (C : Cx base D cI cZ b_Mo_mergeOld 7 "MovedFoldersModel" "mergeOld" none p s m args meth c)  (hM : f_Mo_mergeOld_57 h l0 l1 l2 l3 = some r) (H : Heap) (locs : List Loc) (ls : Array Slot) (hS : RS base D cI cZ s H locs h) (hl : lv_has ls 7 [(0, .ref (base + l0)), (1, .int l1), (2, .int l2), (3, .int l3)]) : Wg l base D cI cZ 5 114 0 0 r none p e s m args below meth c H locs 0 0 (F0 m 57 ls []) := by
  have hx := C.1
  have hb := C.2.1
  unfold f_Mo_mergeOld_57 at hM
  refine lv_iload_n hx hb d_Mo_mergeOld_57 rfl (lv_at hl 3 rfl) ?_
  refine lv_if_eq (tgt := 71) hx hb d_Mo_mergeOld_58 (by decide) (fun c58_7 => ?_) (fun c58_7 => ?_)
  · rw [if_pos c58_7] at hM
    exact t_Mo_mergeOld_71  C  hM _ _ _ hS (lv_sub hl [0, 1, 2, 3] rfl)
  · rw [if_neg c58_7] at hM
    refine lv_aload_n hx hb d_Mo_mergeOld_61 rfl (lv_at hl 0 rfl) ?_
    refine lv_iconst (v := (1 : Int32)) hx hb d_Mo_mergeOld_62 (by decide) ?_
    refine lv_iload_n hx hb d_Mo_mergeOld_63 rfl (lv_at hl 1 rfl) ?_
    obtain ⟨t22, et22, hM⟩ := bS hM
    refine r_callVi (x := t22) C hS cv_Mo_228 (c_Mo_isAsBase l base D cI cZ h l0 (1 : Int32) l1 et22) (o_Mo_isAsBase et22) (rest := []) rfl hl.1 rfl (Nat.le_of_ble_eq_true rfl) ⟨(Nat.le_of_ble_eq_true rfl), (Nat.le_of_ble_eq_true rfl)⟩ ⟨(Nat.le_of_ble_eq_true rfl), (Nat.le_of_ble_eq_true rfl)⟩ d_Mo_mergeOld_64 (fun H locs hS => ?_)
    refine lv_if_eq (tgt := 71) hx hb d_Mo_mergeOld_67 (by decide) (fun c67_11 => ?_) (fun c67_11 => ?_)
    · rw [if_pos c67_11] at hM
      exact t_Mo_mergeOld_71  C  hM _ _ _ hS (lv_sub hl [0, 1, 2, 3] rfl)
    · rw [if_neg c67_11] at hM
      obtain rfl := Option.some.inj hM
      exact r_vret C hS d_Mo_mergeOld_70
def f_Mo_mergeOld_44 (h : Hp) (l0 : Nat) (l1 : Int32) (l2 : Int32) (l3 : Int32) : Option Hp :=
  if l2 = (0 : Int32) then (
    f_Mo_mergeOld_57 h l0 l1 l2 l3
  ) else (
    (f_Mo_isAsBase h l0 (2 : Int32) l1).bind fun t23 =>
    if t23 = (0 : Int32) then (
      f_Mo_mergeOld_57 h l0 l1 l2 l3
    ) else (
      some h
    )
  )
set_option maxHeartbeats 4000000 in
set_option maxRecDepth 100000 in
theorem t_Mo_mergeOld_44 {h : Hp} {l0 : Nat} {l1 : Int32} {l2 : Int32} {l3 : Int32} {r : Hp} (C : Cx base D cI cZ b_Mo_mergeOld 7 "MovedFoldersModel" "mergeOld" none p s m args meth c)  (hM : f_Mo_mergeOld_44 h l0 l1 l2 l3 = some r) (H : Heap) (locs : List Loc) (ls : Array Slot) (hS : RS base D cI cZ s H locs h) (hl : lv_has ls 7 [(0, .ref (base + l0)), (1, .int l1), (2, .int l2), (3, .int l3)]) : Wg l base D cI cZ 5 114 0 0 r none p e s m args below meth c H locs 0 0 (F0 m 44 ls []) := by
  have hx := C.1
  have hb := C.2.1
  unfold f_Mo_mergeOld_44 at hM
  refine lv_iload_n hx hb d_Mo_mergeOld_44 rfl (lv_at hl 2 rfl) ?_
  refine lv_if_eq (tgt := 57) hx hb d_Mo_mergeOld_45 (by decide) (fun c45_6 => ?_) (fun c45_6 => ?_)
  · rw [if_pos c45_6] at hM
    exact t_Mo_mergeOld_57  C  hM _ _ _ hS (lv_sub hl [0, 1, 2, 3] rfl)
  · rw [if_neg c45_6] at hM
    refine lv_aload_n hx hb d_Mo_mergeOld_48 rfl (lv_at hl 0 rfl) ?_
    refine lv_iconst (v := (2 : Int32)) hx hb d_Mo_mergeOld_49 (by decide) ?_
    refine lv_iload_n hx hb d_Mo_mergeOld_50 rfl (lv_at hl 1 rfl) ?_
    obtain ⟨t23, et23, hM⟩ := bS hM
    refine r_callVi (x := t23) C hS cv_Mo_228 (c_Mo_isAsBase l base D cI cZ h l0 (2 : Int32) l1 et23) (o_Mo_isAsBase et23) (rest := []) rfl hl.1 rfl (Nat.le_of_ble_eq_true rfl) ⟨(Nat.le_of_ble_eq_true rfl), (Nat.le_of_ble_eq_true rfl)⟩ ⟨(Nat.le_of_ble_eq_true rfl), (Nat.le_of_ble_eq_true rfl)⟩ d_Mo_mergeOld_51 (fun H locs hS => ?_)
    refine lv_if_ne (tgt := 70) hx hb d_Mo_mergeOld_54 (by decide) (fun c54_12 => ?_) (fun c54_12 => ?_)
    · rw [if_neg c54_12] at hM
      obtain rfl := Option.some.inj hM
      exact r_vret C hS d_Mo_mergeOld_70
    · rw [if_pos c54_12] at hM
      exact t_Mo_mergeOld_57  C  hM _ _ _ hS (lv_sub hl [0, 1, 2, 3] rfl)
def f_Mo_mergeOld (h : Hp) (l0 : Nat) (l1 : Int32) : Option Hp :=
  ck h 9 l0 (
    (gR h 9 l0 11).bind fun t1 =>
    (gA h false t1 ((12 : Int32) + l1)).bind fun t2 =>
    (gR h 9 l0 11).bind fun t3 =>
    (gA h false t3 ((24 : Int32) + l1)).bind fun t4 =>
    if (if (0 : Int32) ≤ t2 then ((0 : Int32)) else ((1 : Int32))) = (0 : Int32) then (
      f_Mo_mergeOld_44 h l0 l1 (if (0 : Int32) ≤ t2 then ((0 : Int32)) else ((1 : Int32))) (if (0 : Int32) ≤ t4 then ((0 : Int32)) else ((1 : Int32)))
    ) else (
      if (if (0 : Int32) ≤ t4 then ((0 : Int32)) else ((1 : Int32))) = (0 : Int32) then (
        f_Mo_mergeOld_44 h l0 l1 (if (0 : Int32) ≤ t2 then ((0 : Int32)) else ((1 : Int32))) (if (0 : Int32) ≤ t4 then ((0 : Int32)) else ((1 : Int32)))
      ) else (
        some h
      )
    )
  )
theorem o_Mo_mergeOld {h : Hp} {l0 : Nat} {l1 : Int32} {r : Hp} (hM : f_Mo_mergeOld h l0 l1 = some r) : isO h 9 l0 = true := by
  unfold f_Mo_mergeOld at hM
  exact (ck_some hM).1
set_option maxHeartbeats 4000000 in
set_option maxRecDepth 100000 in
theorem t_Mo_mergeOld {h : Hp} {l0 : Nat} {l1 : Int32} {r : Hp} (C : Cx base D cI cZ b_Mo_mergeOld 7 "MovedFoldersModel" "mergeOld" none p s m args meth c) (hM : f_Mo_mergeOld h l0 l1 = some r) (H : Heap) (locs : List Loc) (ls : Array Slot) (hS : RS base D cI cZ s H locs h) (hl : lv_has ls 7 [(0, .ref (base + l0)), (1, .int l1)]) : Wg l base D cI cZ 5 114 0 0 r none p e s m args below meth c H locs 0 0 (F0 m 0 ls []) := by
  have hx := C.1
  have hb := C.2.1
  unfold f_Mo_mergeOld at hM
  replace hM := (ck_some hM).2
  refine lv_aload_n hx hb d_Mo_mergeOld_0 rfl (lv_at hl 0 rfl) ?_
  obtain ⟨t1, et1, hM⟩ := bS hM
  refine r_getR C hS fl_Mo_26 et1 d_Mo_mergeOld_1 ?_
  refine lv_bipush (v := (12 : Int32)) hx hb d_Mo_mergeOld_4 (by decide) ?_
  refine lv_iload_n hx hb d_Mo_mergeOld_6 rfl (lv_at hl 1 rfl) ?_
  refine lv_iadd hx hb d_Mo_mergeOld_7 ?_
  obtain ⟨t2, et2, hM⟩ := bS hM
  refine r_iald C hS et2 d_Mo_mergeOld_8 ?_
  have kJ17_1 : ∀ (H : Heap) (locs : List Loc) (ls : Array Slot), RS base D cI cZ s H locs h → lv_has ls 7 [(0, .ref (base + l0)), (1, .int l1)] → Wg l base D cI cZ 5 114 0 0 r none p e s m args below meth c H locs 0 0 (F0 m 17 ls [.int (if (0 : Int32) ≤ t2 then ((0 : Int32)) else ((1 : Int32)))]) := by
    intro H locs ls hS hl
    refine lv_istore_n (lv' := [(2, .int (if (0 : Int32) ≤ t2 then ((0 : Int32)) else ((1 : Int32)))), (0, .ref (base + l0)), (1, .int l1)]) hx hb d_Mo_mergeOld_17 rfl hl (by decide) rfl (fun ls hl => ?_)
    refine lv_aload_n hx hb d_Mo_mergeOld_18 rfl (lv_at hl 1 rfl) ?_
    obtain ⟨t3, et3, hM⟩ := bS hM
    refine r_getR C hS fl_Mo_26 et3 d_Mo_mergeOld_19 ?_
    refine lv_bipush (v := (24 : Int32)) hx hb d_Mo_mergeOld_22 (by decide) ?_
    refine lv_iload_n hx hb d_Mo_mergeOld_24 rfl (lv_at hl 2 rfl) ?_
    refine lv_iadd hx hb d_Mo_mergeOld_25 ?_
    obtain ⟨t4, et4, hM⟩ := bS hM
    refine r_iald C hS et4 d_Mo_mergeOld_26 ?_
    have kJ35_3 : ∀ (H : Heap) (locs : List Loc) (ls : Array Slot), RS base D cI cZ s H locs h → lv_has ls 7 [(0, .ref (base + l0)), (1, .int l1), (2, .int (if (0 : Int32) ≤ t2 then ((0 : Int32)) else ((1 : Int32))))] → Wg l base D cI cZ 5 114 0 0 r none p e s m args below meth c H locs 0 0 (F0 m 35 ls [.int (if (0 : Int32) ≤ t4 then ((0 : Int32)) else ((1 : Int32)))]) := by
      intro H locs ls hS hl
      refine lv_istore_n (lv' := [(3, .int (if (0 : Int32) ≤ t4 then ((0 : Int32)) else ((1 : Int32)))), (0, .ref (base + l0)), (1, .int l1), (2, .int (if (0 : Int32) ≤ t2 then ((0 : Int32)) else ((1 : Int32))))]) hx hb d_Mo_mergeOld_35 rfl hl (by decide) rfl (fun ls hl => ?_)
      refine lv_iload_n hx hb d_Mo_mergeOld_36 rfl (lv_at hl 3 rfl) ?_
      refine lv_if_eq (tgt := 44) hx hb d_Mo_mergeOld_37 (by decide) (fun c37_5 => ?_) (fun c37_5 => ?_)
      · rw [if_pos c37_5] at hM
        exact t_Mo_mergeOld_44  C  hM _ _ _ hS (lv_sub hl [1, 2, 3, 0] rfl)
      · rw [if_neg c37_5] at hM
        refine lv_iload_n hx hb d_Mo_mergeOld_40 rfl (lv_at hl 0 rfl) ?_
        refine lv_if_ne (tgt := 70) hx hb d_Mo_mergeOld_41 (by decide) (fun c41_13 => ?_) (fun c41_13 => ?_)
        · rw [if_neg c41_13] at hM
          obtain rfl := Option.some.inj hM
          exact r_vret C hS d_Mo_mergeOld_70
        · rw [if_pos c41_13] at hM
          exact t_Mo_mergeOld_44  C  hM _ _ _ hS (lv_sub hl [1, 2, 3, 0] rfl)
    refine lv_if_ge (tgt := 34) hx hb d_Mo_mergeOld_27 (by decide) (fun c27_4 => ?_) (fun c27_4 => ?_)
    · rw [if_pos c27_4] at kJ35_3
      refine lv_iconst (v := (0 : Int32)) hx hb d_Mo_mergeOld_34 (by decide) ?_
      exact kJ35_3 _ _ _ hS (lv_sub hl [1, 2, 0] rfl)
    · rw [if_neg c27_4] at kJ35_3
      refine lv_iconst (v := (1 : Int32)) hx hb d_Mo_mergeOld_30 (by decide) ?_
      refine lv_goto (tgt := 35) hx hb d_Mo_mergeOld_31 (by decide) ?_
      exact kJ35_3 _ _ _ hS (lv_sub hl [1, 2, 0] rfl)
  refine lv_if_ge (tgt := 16) hx hb d_Mo_mergeOld_9 (by decide) (fun c9_2 => ?_) (fun c9_2 => ?_)
  · rw [if_pos c9_2] at kJ17_1
    refine lv_iconst (v := (0 : Int32)) hx hb d_Mo_mergeOld_16 (by decide) ?_
    exact kJ17_1 _ _ _ hS (lv_sub hl [0, 1] rfl)
  · rw [if_neg c9_2] at kJ17_1
    refine lv_iconst (v := (1 : Int32)) hx hb d_Mo_mergeOld_12 (by decide) ?_
    refine lv_goto (tgt := 17) hx hb d_Mo_mergeOld_13 (by decide) ?_
    exact kJ17_1 _ _ _ hS (lv_sub hl [0, 1] rfl)
theorem c_Mo_mergeOld (l : Launch) (base : Nat) (D : va_G) (cI cZ : ClassId) (h : Hp) (l0 : Nat) (l1 : Int32) {r : Hp} (hM : f_Mo_mergeOld h l0 l1 = some r) : Ct l base D cI cZ y_Mo_mergeOld b_Mo_mergeOld 7 none 5 114 0 0 h [.ref (base + l0), .int l1] r none :=
  ct_of (by decide) (Nat.le_of_ble_eq_true rfl) (fun p e s m below meth c ls C hS hl => t_Mo_mergeOld C hM _ _ _ hS hl)
theorem d_Mo_newPath_0 : decode b_Mo_newPath 0 = .ok (.bipush 10, 2) := by decide +kernel
theorem d_Mo_newPath_2 : decode b_Mo_newPath 2 = .ok (.aload_n 0, 1) := by decide +kernel
theorem d_Mo_newPath_3 : decode b_Mo_newPath 3 = .ok (.iconst 3, 1) := by decide +kernel
theorem d_Mo_newPath_4 : decode b_Mo_newPath 4 = .ok (.iload_n 1, 1) := by decide +kernel
theorem d_Mo_newPath_5 : decode b_Mo_newPath 5 = .ok (.isub, 1) := by decide +kernel
theorem d_Mo_newPath_6 : decode b_Mo_newPath 6 = .ok (.aload_n 0, 1) := by decide +kernel
theorem d_Mo_newPath_7 : decode b_Mo_newPath 7 = .ok (.iload_n 1, 1) := by decide +kernel
theorem d_Mo_newPath_8 : decode b_Mo_newPath 8 = .ok (.iload_n 2, 1) := by decide +kernel
theorem d_Mo_newPath_9 : decode b_Mo_newPath 9 = .ok (.invokevirtual 176, 3) := by decide +kernel
theorem d_Mo_newPath_12 : decode b_Mo_newPath 12 = .ok (.invokevirtual 216, 3) := by decide +kernel
theorem d_Mo_newPath_15 : decode b_Mo_newPath 15 = .ok (.imul, 1) := by decide +kernel
theorem d_Mo_newPath_16 : decode b_Mo_newPath 16 = .ok (.aload_n 0, 1) := by decide +kernel
theorem d_Mo_newPath_17 : decode b_Mo_newPath 17 = .ok (.iload_n 1, 1) := by decide +kernel
theorem d_Mo_newPath_18 : decode b_Mo_newPath 18 = .ok (.iload_n 2, 1) := by decide +kernel
theorem d_Mo_newPath_19 : decode b_Mo_newPath 19 = .ok (.invokevirtual 159, 3) := by decide +kernel
theorem d_Mo_newPath_22 : decode b_Mo_newPath 22 = .ok (.iadd, 1) := by decide +kernel
theorem d_Mo_newPath_23 : decode b_Mo_newPath 23 = .ok (.ireturn, 1) := by decide +kernel
def f_Mo_newPath (h : Hp) (l0 : Nat) (l1 : Int32) (l2 : Int32) : Option (Int32 × Hp) :=
  ck h 9 l0 (
    (f_Mo_folderAt h l0 l1 l2).bind fun t1 =>
    (f_Mo_destOf h l0 ((3 : Int32) - l1) t1).bind fun q2 =>
    (f_Mo_nameAt q2.2 l0 l1 l2).bind fun t3 =>
    some ((((10 : Int32) * q2.1) + t3), q2.2)
  )
theorem o_Mo_newPath {h : Hp} {l0 : Nat} {l1 : Int32} {l2 : Int32} {r : (Int32 × Hp)} (hM : f_Mo_newPath h l0 l1 l2 = some r) : isO h 9 l0 = true := by
  unfold f_Mo_newPath at hM
  exact (ck_some hM).1
set_option maxHeartbeats 4000000 in
set_option maxRecDepth 100000 in
theorem t_Mo_newPath {h : Hp} {l0 : Nat} {l1 : Int32} {l2 : Int32} {r : (Int32 × Hp)} (C : Cx base D cI cZ b_Mo_newPath 3 "MovedFoldersModel" "newPath" (some .int) p s m args meth c) (hM : f_Mo_newPath h l0 l1 l2 = some r) (H : Heap) (locs : List Loc) (ls : Array Slot) (hS : RS base D cI cZ s H locs h) (hl : lv_has ls 3 [(0, .ref (base + l0)), (1, .int l1), (2, .int l2)]) : Wg l base D cI cZ 4 91 0 0 r.2 (some (.int r.1)) p e s m args below meth c H locs 0 0 (F0 m 0 ls []) := by
  have hx := C.1
  have hb := C.2.1
  unfold f_Mo_newPath at hM
  replace hM := (ck_some hM).2
  refine lv_bipush (v := (10 : Int32)) hx hb d_Mo_newPath_0 (by decide) ?_
  refine lv_aload_n hx hb d_Mo_newPath_2 rfl (lv_at hl 0 rfl) ?_
  refine lv_iconst (v := (3 : Int32)) hx hb d_Mo_newPath_3 (by decide) ?_
  refine lv_iload_n hx hb d_Mo_newPath_4 rfl (lv_at hl 1 rfl) ?_
  refine lv_isub hx hb d_Mo_newPath_5 ?_
  refine lv_aload_n hx hb d_Mo_newPath_6 rfl (lv_at hl 0 rfl) ?_
  refine lv_iload_n hx hb d_Mo_newPath_7 rfl (lv_at hl 1 rfl) ?_
  refine lv_iload_n hx hb d_Mo_newPath_8 rfl (lv_at hl 2 rfl) ?_
  obtain ⟨t1, et1, hM⟩ := bS hM
  refine r_callVi (x := t1) C hS cv_Mo_176 (c_Mo_folderAt l base D cI cZ h l0 l1 l2 et1) (o_Mo_folderAt et1) (rest := [.int ((3 : Int32) - l1), .ref (base + l0), .int (10 : Int32)]) rfl hl.1 rfl (Nat.le_of_ble_eq_true rfl) ⟨(Nat.le_of_ble_eq_true rfl), (Nat.le_of_ble_eq_true rfl)⟩ ⟨(Nat.le_of_ble_eq_true rfl), (Nat.le_of_ble_eq_true rfl)⟩ d_Mo_newPath_9 (fun H locs hS => ?_)
  obtain ⟨q2, eq2, hM⟩ := bS hM
  refine r_callVi (x := q2.1) C hS cv_Mo_216 (c_Mo_destOf l base D cI cZ h l0 ((3 : Int32) - l1) t1 eq2) (o_Mo_destOf eq2) (rest := [.int (10 : Int32)]) rfl hl.1 rfl (Nat.le_of_ble_eq_true rfl) ⟨(Nat.le_of_ble_eq_true rfl), (Nat.le_of_ble_eq_true rfl)⟩ ⟨(Nat.le_of_ble_eq_true rfl), (Nat.le_of_ble_eq_true rfl)⟩ d_Mo_newPath_12 (fun H locs hS => ?_)
  refine lv_imul hx hb d_Mo_newPath_15 ?_
  refine lv_aload_n hx hb d_Mo_newPath_16 rfl (lv_at hl 0 rfl) ?_
  refine lv_iload_n hx hb d_Mo_newPath_17 rfl (lv_at hl 1 rfl) ?_
  refine lv_iload_n hx hb d_Mo_newPath_18 rfl (lv_at hl 2 rfl) ?_
  obtain ⟨t3, et3, hM⟩ := bS hM
  refine r_callVi (x := t3) C hS cv_Mo_159 (c_Mo_nameAt l base D cI cZ q2.2 l0 l1 l2 et3) (o_Mo_nameAt et3) (rest := [.int ((10 : Int32) * q2.1)]) rfl hl.1 rfl (Nat.le_of_ble_eq_true rfl) ⟨(Nat.le_of_ble_eq_true rfl), (Nat.le_of_ble_eq_true rfl)⟩ ⟨(Nat.le_of_ble_eq_true rfl), (Nat.le_of_ble_eq_true rfl)⟩ d_Mo_newPath_19 (fun H locs hS => ?_)
  refine lv_iadd hx hb d_Mo_newPath_22 ?_
  obtain rfl := Option.some.inj hM
  exact r_iret C hS d_Mo_newPath_23
theorem c_Mo_newPath (l : Launch) (base : Nat) (D : va_G) (cI cZ : ClassId) (h : Hp) (l0 : Nat) (l1 : Int32) (l2 : Int32) {r : (Int32 × Hp)} (hM : f_Mo_newPath h l0 l1 l2 = some r) : Ct l base D cI cZ y_Mo_newPath b_Mo_newPath 3 (some .int) 4 91 0 0 h [.ref (base + l0), .int l1, .int l2] r.2 (some (.int r.1)) :=
  ct_of (by decide) (Nat.le_of_ble_eq_true rfl) (fun p e s m below meth c ls C hS hl => t_Mo_newPath C hM _ _ _ hS hl)
theorem d_Mo_twinOf_0 : decode b_Mo_twinOf 0 = .ok (.iconst 0, 1) := by decide +kernel
theorem d_Mo_twinOf_1 : decode b_Mo_twinOf 1 = .ok (.istore_n 3, 1) := by decide +kernel
theorem d_Mo_twinOf_2 : decode b_Mo_twinOf 2 = .ok (.iload_n 3, 1) := by decide +kernel
theorem d_Mo_twinOf_3 : decode b_Mo_twinOf 3 = .ok (.aload_n 0, 1) := by decide +kernel
theorem d_Mo_twinOf_4 : decode b_Mo_twinOf 4 = .ok (.getfield 16, 3) := by decide +kernel
theorem d_Mo_twinOf_7 : decode b_Mo_twinOf 7 = .ok (.iconst 2, 1) := by decide +kernel
theorem d_Mo_twinOf_8 : decode b_Mo_twinOf 8 = .ok (.iaload, 1) := by decide +kernel
theorem d_Mo_twinOf_9 : decode b_Mo_twinOf 9 = .ok (.if_icmp .ge 64, 3) := by decide +kernel
theorem d_Mo_twinOf_12 : decode b_Mo_twinOf 12 = .ok (.aload_n 0, 1) := by decide +kernel
theorem d_Mo_twinOf_13 : decode b_Mo_twinOf 13 = .ok (.getfield 32, 3) := by decide +kernel
theorem d_Mo_twinOf_16 : decode b_Mo_twinOf 16 = .ok (.bipush 24, 2) := by decide +kernel
theorem d_Mo_twinOf_18 : decode b_Mo_twinOf 18 = .ok (.iload_n 3, 1) := by decide +kernel
theorem d_Mo_twinOf_19 : decode b_Mo_twinOf 19 = .ok (.iadd, 1) := by decide +kernel
theorem d_Mo_twinOf_20 : decode b_Mo_twinOf 20 = .ok (.iaload, 1) := by decide +kernel
theorem d_Mo_twinOf_21 : decode b_Mo_twinOf 21 = .ok (.ifCond .ge 16, 3) := by decide +kernel
theorem d_Mo_twinOf_24 : decode b_Mo_twinOf 24 = .ok (.aload_n 0, 1) := by decide +kernel
theorem d_Mo_twinOf_25 : decode b_Mo_twinOf 25 = .ok (.getfield 54, 3) := by decide +kernel
theorem d_Mo_twinOf_28 : decode b_Mo_twinOf 28 = .ok (.iload_n 3, 1) := by decide +kernel
theorem d_Mo_twinOf_29 : decode b_Mo_twinOf 29 = .ok (.baload, 1) := by decide +kernel
theorem d_Mo_twinOf_30 : decode b_Mo_twinOf 30 = .ok (.ifCond .ne 7, 3) := by decide +kernel
theorem d_Mo_twinOf_33 : decode b_Mo_twinOf 33 = .ok (.iconst 1, 1) := by decide +kernel
theorem d_Mo_twinOf_34 : decode b_Mo_twinOf 34 = .ok (.goto 4, 3) := by decide +kernel
theorem d_Mo_twinOf_37 : decode b_Mo_twinOf 37 = .ok (.iconst 0, 1) := by decide +kernel
theorem d_Mo_twinOf_38 : decode b_Mo_twinOf 38 = .ok (.istore 4, 2) := by decide +kernel
theorem d_Mo_twinOf_40 : decode b_Mo_twinOf 40 = .ok (.iload 4, 2) := by decide +kernel
theorem d_Mo_twinOf_42 : decode b_Mo_twinOf 42 = .ok (.ifCond .eq 25, 3) := by decide +kernel
theorem d_Mo_twinOf_45 : decode b_Mo_twinOf 45 = .ok (.aload_n 0, 1) := by decide +kernel
theorem d_Mo_twinOf_46 : decode b_Mo_twinOf 46 = .ok (.iconst 2, 1) := by decide +kernel
theorem d_Mo_twinOf_47 : decode b_Mo_twinOf 47 = .ok (.iload_n 3, 1) := by decide +kernel
theorem d_Mo_twinOf_48 : decode b_Mo_twinOf 48 = .ok (.invokevirtual 132, 3) := by decide +kernel
theorem d_Mo_twinOf_51 : decode b_Mo_twinOf 51 = .ok (.iload_n 2, 1) := by decide +kernel
theorem d_Mo_twinOf_52 : decode b_Mo_twinOf 52 = .ok (.if_icmp .ne 15, 3) := by decide +kernel
theorem d_Mo_twinOf_55 : decode b_Mo_twinOf 55 = .ok (.aload_n 0, 1) := by decide +kernel
theorem d_Mo_twinOf_56 : decode b_Mo_twinOf 56 = .ok (.iconst 2, 1) := by decide +kernel
theorem d_Mo_twinOf_57 : decode b_Mo_twinOf 57 = .ok (.iload_n 3, 1) := by decide +kernel
theorem d_Mo_twinOf_58 : decode b_Mo_twinOf 58 = .ok (.invokevirtual 246, 3) := by decide +kernel
theorem d_Mo_twinOf_61 : decode b_Mo_twinOf 61 = .ok (.iload_n 1, 1) := by decide +kernel
theorem d_Mo_twinOf_62 : decode b_Mo_twinOf 62 = .ok (.if_icmp .ne 5, 3) := by decide +kernel
theorem d_Mo_twinOf_65 : decode b_Mo_twinOf 65 = .ok (.iload_n 3, 1) := by decide +kernel
theorem d_Mo_twinOf_66 : decode b_Mo_twinOf 66 = .ok (.ireturn, 1) := by decide +kernel
theorem d_Mo_twinOf_67 : decode b_Mo_twinOf 67 = .ok (.iinc 3 1, 3) := by decide +kernel
theorem d_Mo_twinOf_70 : decode b_Mo_twinOf 70 = .ok (.goto (-68), 3) := by decide +kernel
theorem d_Mo_twinOf_73 : decode b_Mo_twinOf 73 = .ok (.bipush (-6), 2) := by decide +kernel
theorem d_Mo_twinOf_75 : decode b_Mo_twinOf 75 = .ok (.ireturn, 1) := by decide +kernel
def f_Mo_twinOf_2 (l0 : Nat) (l1 : Int32) (l2 : Int32) : Nat → Int32 → Hp → Option (Int32 × Hp)
  | 0, _, _ => none
  | n + 1, l3, h =>
    (gR h 9 l0 2).bind fun t1 =>
    (gA h false t1 (2 : Int32)).bind fun t2 =>
    if t2 ≤ l3 then (
      some ((-6 : Int32), h)
    ) else (
      (gR h 9 l0 13).bind fun t3 =>
      (gA h false t3 ((24 : Int32) + l3)).bind fun t4 =>
      (
        if (0 : Int32) ≤ t4 then (
          some (0 : Int32)
        ) else (
          (gR h 9 l0 22).bind fun t6 =>
          (gA h true t6 l3).bind fun t7 =>
          if t7 = (0 : Int32) then (
            some (1 : Int32)
          ) else (
            some (0 : Int32)
          )
        )
      ).bind fun t5 =>
      if t5 = (0 : Int32) then (
        f_Mo_twinOf_2 l0 l1 l2 n (l3 + (1 : Int32)) h
      ) else (
        (f_Mo_contentAt h l0 (2 : Int32) l3).bind fun t8 =>
        if t8 = l2 then (
          (f_Mo_newPath h l0 (2 : Int32) l3).bind fun q9 =>
          if q9.1 = l1 then (
            some (l3, q9.2)
          ) else (
            f_Mo_twinOf_2 l0 l1 l2 n (l3 + (1 : Int32)) q9.2
          )
        ) else (
          f_Mo_twinOf_2 l0 l1 l2 n (l3 + (1 : Int32)) h
        )
      )
    )
set_option maxHeartbeats 4000000 in
set_option maxRecDepth 100000 in
theorem t_Mo_twinOf_2 {l0 : Nat} {l1 : Int32} {l2 : Int32} {r : (Int32 × Hp)} (C : Cx base D cI cZ b_Mo_twinOf 5 "MovedFoldersModel" "twinOf" (some .int) p s m args meth c)  : ∀ (n : Nat) (l3 : Int32) (h : Hp), f_Mo_twinOf_2 l0 l1 l2 n l3 h = some r → ∀ (H : Heap) (locs : List Loc) (ls : Array Slot), RS base D cI cZ s H locs h → lv_has ls 5 [(0, .ref (base + l0)), (1, .int l1), (2, .int l2), (3, .int l3)] → Wg l base D cI cZ 5 113 0 0 r.2 (some (.int r.1)) p e s m args below meth c H locs 0 0 (F0 m 2 ls []) := by
  have hx := C.1
  have hb := C.2.1
  intro n
  induction n with
  | zero =>
    intro l3 h hM
    rw [f_Mo_twinOf_2] at hM
    cases hM
  | succ n ih =>
    intro l3 h hM H locs ls hS hl
    rw [f_Mo_twinOf_2] at hM
    refine lv_iload_n hx hb d_Mo_twinOf_2 rfl (lv_at hl 3 rfl) ?_
    refine lv_aload_n hx hb d_Mo_twinOf_3 rfl (lv_at hl 0 rfl) ?_
    obtain ⟨t1, et1, hM⟩ := bS hM
    refine r_getR C hS fl_Mo_16 et1 d_Mo_twinOf_4 ?_
    refine lv_iconst (v := (2 : Int32)) hx hb d_Mo_twinOf_7 (by decide) ?_
    obtain ⟨t2, et2, hM⟩ := bS hM
    refine r_iald C hS et2 d_Mo_twinOf_8 ?_
    refine lv_icmp_ge (tgt := 73) hx hb d_Mo_twinOf_9 (by decide) (fun c9_1 => ?_) (fun c9_1 => ?_)
    · rw [if_pos c9_1] at hM
      refine lv_bipush (v := (-6 : Int32)) hx hb d_Mo_twinOf_73 (by decide) ?_
      obtain rfl := Option.some.inj hM
      exact r_iret C hS d_Mo_twinOf_75
    · rw [if_neg c9_1] at hM
      refine lv_aload_n hx hb d_Mo_twinOf_12 rfl (lv_at hl 0 rfl) ?_
      obtain ⟨t3, et3, hM⟩ := bS hM
      refine r_getR C hS fl_Mo_32 et3 d_Mo_twinOf_13 ?_
      refine lv_bipush (v := (24 : Int32)) hx hb d_Mo_twinOf_16 (by decide) ?_
      refine lv_iload_n hx hb d_Mo_twinOf_18 rfl (lv_at hl 3 rfl) ?_
      refine lv_iadd hx hb d_Mo_twinOf_19 ?_
      obtain ⟨t4, et4, hM⟩ := bS hM
      refine r_iald C hS et4 d_Mo_twinOf_20 ?_
      obtain ⟨t5, et5, hM⟩ := bS hM
      have kJ38_2 : ∀ (H : Heap) (locs : List Loc) (ls : Array Slot), RS base D cI cZ s H locs h → lv_has ls 5 [(0, .ref (base + l0)), (1, .int l1), (2, .int l2), (3, .int l3)] → Wg l base D cI cZ 5 113 0 0 r.2 (some (.int r.1)) p e s m args below meth c H locs 0 0 (F0 m 38 ls [.int t5]) := by
        intro H locs ls hS hl
        refine lv_istore (lv' := [(4, .int t5), (0, .ref (base + l0)), (1, .int l1), (2, .int l2), (3, .int l3)]) hx hb d_Mo_twinOf_38 hl (by decide) rfl (fun ls hl => ?_)
        refine lv_iload hx hb d_Mo_twinOf_40 (lv_at hl 0 rfl) ?_
        refine lv_if_eq (tgt := 67) hx hb d_Mo_twinOf_42 (by decide) (fun c42_5 => ?_) (fun c42_5 => ?_)
        · rw [if_pos c42_5] at hM
          refine lv_iinc (v := (l3 + (1 : Int32))) (lv' := [(3, .int (l3 + (1 : Int32))), (4, .int t5), (0, .ref (base + l0)), (1, .int l1), (2, .int l2)]) hx hb d_Mo_twinOf_67 hl (k := 4) rfl (by rw [oi_1]) (by decide) rfl (fun ls hl => ?_)
          refine lv_goto (tgt := 2) hx hb d_Mo_twinOf_70 (by decide) ?_
          exact ih (l3 + (1 : Int32)) h hM _ _ _ hS (lv_sub hl [2, 3, 4, 0] rfl)
        · rw [if_neg c42_5] at hM
          refine lv_aload_n hx hb d_Mo_twinOf_45 rfl (lv_at hl 1 rfl) ?_
          refine lv_iconst (v := (2 : Int32)) hx hb d_Mo_twinOf_46 (by decide) ?_
          refine lv_iload_n hx hb d_Mo_twinOf_47 rfl (lv_at hl 4 rfl) ?_
          obtain ⟨t8, et8, hM⟩ := bS hM
          refine r_callVi (x := t8) C hS cv_Mo_132 (c_Mo_contentAt l base D cI cZ h l0 (2 : Int32) l3 et8) (o_Mo_contentAt et8) (rest := []) rfl hl.1 rfl (Nat.le_of_ble_eq_true rfl) ⟨(Nat.le_of_ble_eq_true rfl), (Nat.le_of_ble_eq_true rfl)⟩ ⟨(Nat.le_of_ble_eq_true rfl), (Nat.le_of_ble_eq_true rfl)⟩ d_Mo_twinOf_48 (fun H locs hS => ?_)
          refine lv_iload_n hx hb d_Mo_twinOf_51 rfl (lv_at hl 3 rfl) ?_
          refine lv_icmp_ne (tgt := 67) hx hb d_Mo_twinOf_52 (by decide) (fun c52_6 => ?_) (fun c52_6 => ?_)
          · rw [if_neg c52_6] at hM
            refine lv_iinc (v := (l3 + (1 : Int32))) (lv' := [(3, .int (l3 + (1 : Int32))), (4, .int t5), (0, .ref (base + l0)), (1, .int l1), (2, .int l2)]) hx hb d_Mo_twinOf_67 hl (k := 4) rfl (by rw [oi_1]) (by decide) rfl (fun ls hl => ?_)
            refine lv_goto (tgt := 2) hx hb d_Mo_twinOf_70 (by decide) ?_
            exact ih (l3 + (1 : Int32)) h hM _ _ _ hS (lv_sub hl [2, 3, 4, 0] rfl)
          · rw [if_pos c52_6] at hM
            refine lv_aload_n hx hb d_Mo_twinOf_55 rfl (lv_at hl 1 rfl) ?_
            refine lv_iconst (v := (2 : Int32)) hx hb d_Mo_twinOf_56 (by decide) ?_
            refine lv_iload_n hx hb d_Mo_twinOf_57 rfl (lv_at hl 4 rfl) ?_
            obtain ⟨q9, eq9, hM⟩ := bS hM
            refine r_callVi (x := q9.1) C hS cv_Mo_246 (c_Mo_newPath l base D cI cZ h l0 (2 : Int32) l3 eq9) (o_Mo_newPath eq9) (rest := []) rfl hl.1 rfl (Nat.le_of_ble_eq_true rfl) ⟨(Nat.le_of_ble_eq_true rfl), (Nat.le_of_ble_eq_true rfl)⟩ ⟨(Nat.le_of_ble_eq_true rfl), (Nat.le_of_ble_eq_true rfl)⟩ d_Mo_twinOf_58 (fun H locs hS => ?_)
            refine lv_iload_n hx hb d_Mo_twinOf_61 rfl (lv_at hl 2 rfl) ?_
            refine lv_icmp_ne (tgt := 67) hx hb d_Mo_twinOf_62 (by decide) (fun c62_7 => ?_) (fun c62_7 => ?_)
            · rw [if_neg c62_7] at hM
              refine lv_iinc (v := (l3 + (1 : Int32))) (lv' := [(3, .int (l3 + (1 : Int32))), (4, .int t5), (0, .ref (base + l0)), (1, .int l1), (2, .int l2)]) hx hb d_Mo_twinOf_67 hl (k := 4) rfl (by rw [oi_1]) (by decide) rfl (fun ls hl => ?_)
              refine lv_goto (tgt := 2) hx hb d_Mo_twinOf_70 (by decide) ?_
              exact ih (l3 + (1 : Int32)) q9.2 hM _ _ _ hS (lv_sub hl [2, 3, 4, 0] rfl)
            · rw [if_pos c62_7] at hM
              refine lv_iload_n hx hb d_Mo_twinOf_65 rfl (lv_at hl 4 rfl) ?_
              obtain rfl := Option.some.inj hM
              exact r_iret C hS d_Mo_twinOf_66
      refine lv_if_ge (tgt := 37) hx hb d_Mo_twinOf_21 (by decide) (fun c21_3 => ?_) (fun c21_3 => ?_)
      · rw [if_pos c21_3] at et5
        refine lv_iconst (v := (0 : Int32)) hx hb d_Mo_twinOf_37 (by decide) ?_
        obtain rfl := Option.some.inj et5
        exact kJ38_2 _ _ _ hS (lv_sub hl [0, 1, 2, 3] rfl)
      · rw [if_neg c21_3] at et5
        refine lv_aload_n hx hb d_Mo_twinOf_24 rfl (lv_at hl 0 rfl) ?_
        obtain ⟨t6, et6, et5⟩ := bS et5
        refine r_getR C hS fl_Mo_54 et6 d_Mo_twinOf_25 ?_
        refine lv_iload_n hx hb d_Mo_twinOf_28 rfl (lv_at hl 3 rfl) ?_
        obtain ⟨t7, et7, et5⟩ := bS et5
        refine r_zald C hS et7 d_Mo_twinOf_29 ?_
        refine lv_if_ne (tgt := 37) hx hb d_Mo_twinOf_30 (by decide) (fun c30_4 => ?_) (fun c30_4 => ?_)
        · rw [if_neg c30_4] at et5
          refine lv_iconst (v := (0 : Int32)) hx hb d_Mo_twinOf_37 (by decide) ?_
          obtain rfl := Option.some.inj et5
          exact kJ38_2 _ _ _ hS (lv_sub hl [0, 1, 2, 3] rfl)
        · rw [if_pos c30_4] at et5
          refine lv_iconst (v := (1 : Int32)) hx hb d_Mo_twinOf_33 (by decide) ?_
          refine lv_goto (tgt := 38) hx hb d_Mo_twinOf_34 (by decide) ?_
          obtain rfl := Option.some.inj et5
          exact kJ38_2 _ _ _ hS (lv_sub hl [0, 1, 2, 3] rfl)
def f_Mo_twinOf (h : Hp) (l0 : Nat) (l1 : Int32) (l2 : Int32) : Option (Int32 × Hp) :=
  ck h 9 l0 (
    f_Mo_twinOf_2 l0 l1 l2 FU (0 : Int32) h
  )
theorem o_Mo_twinOf {h : Hp} {l0 : Nat} {l1 : Int32} {l2 : Int32} {r : (Int32 × Hp)} (hM : f_Mo_twinOf h l0 l1 l2 = some r) : isO h 9 l0 = true := by
  unfold f_Mo_twinOf at hM
  exact (ck_some hM).1
set_option maxHeartbeats 4000000 in
set_option maxRecDepth 100000 in
theorem t_Mo_twinOf {h : Hp} {l0 : Nat} {l1 : Int32} {l2 : Int32} {r : (Int32 × Hp)} (C : Cx base D cI cZ b_Mo_twinOf 5 "MovedFoldersModel" "twinOf" (some .int) p s m args meth c) (hM : f_Mo_twinOf h l0 l1 l2 = some r) (H : Heap) (locs : List Loc) (ls : Array Slot) (hS : RS base D cI cZ s H locs h) (hl : lv_has ls 5 [(0, .ref (base + l0)), (1, .int l1), (2, .int l2)]) : Wg l base D cI cZ 5 113 0 0 r.2 (some (.int r.1)) p e s m args below meth c H locs 0 0 (F0 m 0 ls []) := by
  have hx := C.1
  have hb := C.2.1
  unfold f_Mo_twinOf at hM
  replace hM := (ck_some hM).2
  refine lv_iconst (v := (0 : Int32)) hx hb d_Mo_twinOf_0 (by decide) ?_
  refine lv_istore_n (lv' := [(3, .int (0 : Int32)), (0, .ref (base + l0)), (1, .int l1), (2, .int l2)]) hx hb d_Mo_twinOf_1 rfl hl (by decide) rfl (fun ls hl => ?_)
  exact t_Mo_twinOf_2  C  FU (0 : Int32) h hM _ _ _ hS (lv_sub hl [1, 2, 3, 0] rfl)
theorem c_Mo_twinOf (l : Launch) (base : Nat) (D : va_G) (cI cZ : ClassId) (h : Hp) (l0 : Nat) (l1 : Int32) (l2 : Int32) {r : (Int32 × Hp)} (hM : f_Mo_twinOf h l0 l1 l2 = some r) : Ct l base D cI cZ y_Mo_twinOf b_Mo_twinOf 5 (some .int) 5 113 0 0 h [.ref (base + l0), .int l1, .int l2] r.2 (some (.int r.1)) :=
  ct_of (by decide) (Nat.le_of_ble_eq_true rfl) (fun p e s m below meth c ls C hS hl => t_Mo_twinOf C hM _ _ _ hS hl)
theorem d_Mo_mergeNew_0 : decode b_Mo_mergeNew 0 = .ok (.iconst 0, 1) := by decide +kernel
theorem d_Mo_mergeNew_1 : decode b_Mo_mergeNew 1 = .ok (.istore_n 1, 1) := by decide +kernel
theorem d_Mo_mergeNew_2 : decode b_Mo_mergeNew 2 = .ok (.iload_n 1, 1) := by decide +kernel
theorem d_Mo_mergeNew_3 : decode b_Mo_mergeNew 3 = .ok (.bipush 12, 2) := by decide +kernel
theorem d_Mo_mergeNew_5 : decode b_Mo_mergeNew 5 = .ok (.if_icmp .ge 16, 3) := by decide +kernel
theorem d_Mo_mergeNew_8 : decode b_Mo_mergeNew 8 = .ok (.aload_n 0, 1) := by decide +kernel
theorem d_Mo_mergeNew_9 : decode b_Mo_mergeNew 9 = .ok (.getfield 54, 3) := by decide +kernel
theorem d_Mo_mergeNew_12 : decode b_Mo_mergeNew 12 = .ok (.iload_n 1, 1) := by decide +kernel
theorem d_Mo_mergeNew_13 : decode b_Mo_mergeNew 13 = .ok (.iconst 0, 1) := by decide +kernel
theorem d_Mo_mergeNew_14 : decode b_Mo_mergeNew 14 = .ok (.bastore, 1) := by decide +kernel
theorem d_Mo_mergeNew_15 : decode b_Mo_mergeNew 15 = .ok (.iinc 1 1, 3) := by decide +kernel
theorem d_Mo_mergeNew_18 : decode b_Mo_mergeNew 18 = .ok (.goto (-16), 3) := by decide +kernel
theorem d_Mo_mergeNew_21 : decode b_Mo_mergeNew 21 = .ok (.iconst 0, 1) := by decide +kernel
theorem d_Mo_mergeNew_22 : decode b_Mo_mergeNew 22 = .ok (.istore_n 1, 1) := by decide +kernel
theorem d_Mo_mergeNew_23 : decode b_Mo_mergeNew 23 = .ok (.iload_n 1, 1) := by decide +kernel
theorem d_Mo_mergeNew_24 : decode b_Mo_mergeNew 24 = .ok (.aload_n 0, 1) := by decide +kernel
theorem d_Mo_mergeNew_25 : decode b_Mo_mergeNew 25 = .ok (.getfield 16, 3) := by decide +kernel
theorem d_Mo_mergeNew_28 : decode b_Mo_mergeNew 28 = .ok (.iconst 1, 1) := by decide +kernel
theorem d_Mo_mergeNew_29 : decode b_Mo_mergeNew 29 = .ok (.iaload, 1) := by decide +kernel
theorem d_Mo_mergeNew_30 : decode b_Mo_mergeNew 30 = .ok (.if_icmp .ge 67, 3) := by decide +kernel
theorem d_Mo_mergeNew_33 : decode b_Mo_mergeNew 33 = .ok (.aload_n 0, 1) := by decide +kernel
theorem d_Mo_mergeNew_34 : decode b_Mo_mergeNew 34 = .ok (.getfield 32, 3) := by decide +kernel
theorem d_Mo_mergeNew_37 : decode b_Mo_mergeNew 37 = .ok (.bipush 12, 2) := by decide +kernel
theorem d_Mo_mergeNew_39 : decode b_Mo_mergeNew 39 = .ok (.iload_n 1, 1) := by decide +kernel
theorem d_Mo_mergeNew_40 : decode b_Mo_mergeNew 40 = .ok (.iadd, 1) := by decide +kernel
theorem d_Mo_mergeNew_41 : decode b_Mo_mergeNew 41 = .ok (.iaload, 1) := by decide +kernel
theorem d_Mo_mergeNew_42 : decode b_Mo_mergeNew 42 = .ok (.ifCond .ge 49, 3) := by decide +kernel
theorem d_Mo_mergeNew_45 : decode b_Mo_mergeNew 45 = .ok (.aload_n 0, 1) := by decide +kernel
theorem d_Mo_mergeNew_46 : decode b_Mo_mergeNew 46 = .ok (.iconst 1, 1) := by decide +kernel
theorem d_Mo_mergeNew_47 : decode b_Mo_mergeNew 47 = .ok (.iload_n 1, 1) := by decide +kernel
theorem d_Mo_mergeNew_48 : decode b_Mo_mergeNew 48 = .ok (.invokevirtual 246, 3) := by decide +kernel
theorem d_Mo_mergeNew_51 : decode b_Mo_mergeNew 51 = .ok (.istore_n 2, 1) := by decide +kernel
theorem d_Mo_mergeNew_52 : decode b_Mo_mergeNew 52 = .ok (.aload_n 0, 1) := by decide +kernel
theorem d_Mo_mergeNew_53 : decode b_Mo_mergeNew 53 = .ok (.iload_n 2, 1) := by decide +kernel
theorem d_Mo_mergeNew_54 : decode b_Mo_mergeNew 54 = .ok (.aload_n 0, 1) := by decide +kernel
theorem d_Mo_mergeNew_55 : decode b_Mo_mergeNew 55 = .ok (.iconst 1, 1) := by decide +kernel
theorem d_Mo_mergeNew_56 : decode b_Mo_mergeNew 56 = .ok (.iload_n 1, 1) := by decide +kernel
theorem d_Mo_mergeNew_57 : decode b_Mo_mergeNew 57 = .ok (.invokevirtual 132, 3) := by decide +kernel
theorem d_Mo_mergeNew_60 : decode b_Mo_mergeNew 60 = .ok (.invokevirtual 249, 3) := by decide +kernel
theorem d_Mo_mergeNew_63 : decode b_Mo_mergeNew 63 = .ok (.istore_n 3, 1) := by decide +kernel
theorem d_Mo_mergeNew_64 : decode b_Mo_mergeNew 64 = .ok (.aload_n 0, 1) := by decide +kernel
theorem d_Mo_mergeNew_65 : decode b_Mo_mergeNew 65 = .ok (.iload_n 2, 1) := by decide +kernel
theorem d_Mo_mergeNew_66 : decode b_Mo_mergeNew 66 = .ok (.aload_n 0, 1) := by decide +kernel
theorem d_Mo_mergeNew_67 : decode b_Mo_mergeNew 67 = .ok (.iconst 1, 1) := by decide +kernel
theorem d_Mo_mergeNew_68 : decode b_Mo_mergeNew 68 = .ok (.iload_n 1, 1) := by decide +kernel
theorem d_Mo_mergeNew_69 : decode b_Mo_mergeNew 69 = .ok (.invokevirtual 132, 3) := by decide +kernel
theorem d_Mo_mergeNew_72 : decode b_Mo_mergeNew 72 = .ok (.iconst 0, 1) := by decide +kernel
theorem d_Mo_mergeNew_73 : decode b_Mo_mergeNew 73 = .ok (.bipush 100, 2) := by decide +kernel
theorem d_Mo_mergeNew_75 : decode b_Mo_mergeNew 75 = .ok (.iload_n 1, 1) := by decide +kernel
theorem d_Mo_mergeNew_76 : decode b_Mo_mergeNew 76 = .ok (.iadd, 1) := by decide +kernel
theorem d_Mo_mergeNew_77 : decode b_Mo_mergeNew 77 = .ok (.invokevirtual 243, 3) := by decide +kernel
theorem d_Mo_mergeNew_80 : decode b_Mo_mergeNew 80 = .ok (.iload_n 3, 1) := by decide +kernel
theorem d_Mo_mergeNew_81 : decode b_Mo_mergeNew 81 = .ok (.ifCond .lt 10, 3) := by decide +kernel
theorem d_Mo_mergeNew_84 : decode b_Mo_mergeNew 84 = .ok (.aload_n 0, 1) := by decide +kernel
theorem d_Mo_mergeNew_85 : decode b_Mo_mergeNew 85 = .ok (.getfield 54, 3) := by decide +kernel
theorem d_Mo_mergeNew_88 : decode b_Mo_mergeNew 88 = .ok (.iload_n 3, 1) := by decide +kernel
theorem d_Mo_mergeNew_89 : decode b_Mo_mergeNew 89 = .ok (.iconst 1, 1) := by decide +kernel
theorem d_Mo_mergeNew_90 : decode b_Mo_mergeNew 90 = .ok (.bastore, 1) := by decide +kernel
theorem d_Mo_mergeNew_91 : decode b_Mo_mergeNew 91 = .ok (.iinc 1 1, 3) := by decide +kernel
theorem d_Mo_mergeNew_94 : decode b_Mo_mergeNew 94 = .ok (.goto (-71), 3) := by decide +kernel
theorem d_Mo_mergeNew_97 : decode b_Mo_mergeNew 97 = .ok (.iconst 0, 1) := by decide +kernel
theorem d_Mo_mergeNew_98 : decode b_Mo_mergeNew 98 = .ok (.istore_n 1, 1) := by decide +kernel
theorem d_Mo_mergeNew_99 : decode b_Mo_mergeNew 99 = .ok (.iload_n 1, 1) := by decide +kernel
theorem d_Mo_mergeNew_100 : decode b_Mo_mergeNew 100 = .ok (.aload_n 0, 1) := by decide +kernel
theorem d_Mo_mergeNew_101 : decode b_Mo_mergeNew 101 = .ok (.getfield 16, 3) := by decide +kernel
theorem d_Mo_mergeNew_104 : decode b_Mo_mergeNew 104 = .ok (.iconst 2, 1) := by decide +kernel
theorem d_Mo_mergeNew_105 : decode b_Mo_mergeNew 105 = .ok (.iaload, 1) := by decide +kernel
theorem d_Mo_mergeNew_106 : decode b_Mo_mergeNew 106 = .ok (.if_icmp .ge 52, 3) := by decide +kernel
theorem d_Mo_mergeNew_109 : decode b_Mo_mergeNew 109 = .ok (.aload_n 0, 1) := by decide +kernel
theorem d_Mo_mergeNew_110 : decode b_Mo_mergeNew 110 = .ok (.getfield 32, 3) := by decide +kernel
theorem d_Mo_mergeNew_113 : decode b_Mo_mergeNew 113 = .ok (.bipush 24, 2) := by decide +kernel
theorem d_Mo_mergeNew_115 : decode b_Mo_mergeNew 115 = .ok (.iload_n 1, 1) := by decide +kernel
theorem d_Mo_mergeNew_116 : decode b_Mo_mergeNew 116 = .ok (.iadd, 1) := by decide +kernel
theorem d_Mo_mergeNew_117 : decode b_Mo_mergeNew 117 = .ok (.iaload, 1) := by decide +kernel
theorem d_Mo_mergeNew_118 : decode b_Mo_mergeNew 118 = .ok (.ifCond .ge 34, 3) := by decide +kernel
theorem d_Mo_mergeNew_121 : decode b_Mo_mergeNew 121 = .ok (.aload_n 0, 1) := by decide +kernel
theorem d_Mo_mergeNew_122 : decode b_Mo_mergeNew 122 = .ok (.getfield 54, 3) := by decide +kernel
theorem d_Mo_mergeNew_125 : decode b_Mo_mergeNew 125 = .ok (.iload_n 1, 1) := by decide +kernel
theorem d_Mo_mergeNew_126 : decode b_Mo_mergeNew 126 = .ok (.baload, 1) := by decide +kernel
theorem d_Mo_mergeNew_127 : decode b_Mo_mergeNew 127 = .ok (.ifCond .ne 25, 3) := by decide +kernel
theorem d_Mo_mergeNew_130 : decode b_Mo_mergeNew 130 = .ok (.aload_n 0, 1) := by decide +kernel
theorem d_Mo_mergeNew_131 : decode b_Mo_mergeNew 131 = .ok (.aload_n 0, 1) := by decide +kernel
theorem d_Mo_mergeNew_132 : decode b_Mo_mergeNew 132 = .ok (.iconst 2, 1) := by decide +kernel
theorem d_Mo_mergeNew_133 : decode b_Mo_mergeNew 133 = .ok (.iload_n 1, 1) := by decide +kernel
theorem d_Mo_mergeNew_134 : decode b_Mo_mergeNew 134 = .ok (.invokevirtual 246, 3) := by decide +kernel
theorem d_Mo_mergeNew_137 : decode b_Mo_mergeNew 137 = .ok (.aload_n 0, 1) := by decide +kernel
theorem d_Mo_mergeNew_138 : decode b_Mo_mergeNew 138 = .ok (.iconst 2, 1) := by decide +kernel
theorem d_Mo_mergeNew_139 : decode b_Mo_mergeNew 139 = .ok (.iload_n 1, 1) := by decide +kernel
theorem d_Mo_mergeNew_140 : decode b_Mo_mergeNew 140 = .ok (.invokevirtual 132, 3) := by decide +kernel
theorem d_Mo_mergeNew_143 : decode b_Mo_mergeNew 143 = .ok (.iconst 0, 1) := by decide +kernel
theorem d_Mo_mergeNew_144 : decode b_Mo_mergeNew 144 = .ok (.sipush 200, 3) := by decide +kernel
theorem d_Mo_mergeNew_147 : decode b_Mo_mergeNew 147 = .ok (.iload_n 1, 1) := by decide +kernel
theorem d_Mo_mergeNew_148 : decode b_Mo_mergeNew 148 = .ok (.iadd, 1) := by decide +kernel
theorem d_Mo_mergeNew_149 : decode b_Mo_mergeNew 149 = .ok (.invokevirtual 243, 3) := by decide +kernel
theorem d_Mo_mergeNew_152 : decode b_Mo_mergeNew 152 = .ok (.iinc 1 1, 3) := by decide +kernel
theorem d_Mo_mergeNew_155 : decode b_Mo_mergeNew 155 = .ok (.goto (-56), 3) := by decide +kernel
theorem d_Mo_mergeNew_158 : decode b_Mo_mergeNew 158 = .ok (.return_, 1) := by decide +kernel
def f_Mo_mergeNew_99 (l0 : Nat) : Nat → Int32 → Hp → Option Hp
  | 0, _, _ => none
  | n + 1, l1, h =>
    (gR h 9 l0 2).bind fun t3 =>
    (gA h false t3 (2 : Int32)).bind fun t4 =>
    if t4 ≤ l1 then (
      some h
    ) else (
      (gR h 9 l0 13).bind fun t5 =>
      (gA h false t5 ((24 : Int32) + l1)).bind fun t6 =>
      (
        if (0 : Int32) ≤ t6 then (
          some h
        ) else (
          (gR h 9 l0 22).bind fun t8 =>
          (gA h true t8 l1).bind fun t9 =>
          if t9 = (0 : Int32) then (
            (f_Mo_newPath h l0 (2 : Int32) l1).bind fun q10 =>
            (f_Mo_contentAt q10.2 l0 (2 : Int32) l1).bind fun t11 =>
            (f_Mo_addEntry q10.2 l0 q10.1 t11 (0 : Int32) ((200 : Int32) + l1)).bind fun h12 =>
            some h12
          ) else (
            some h
          )
        )
      ).bind fun h7 =>
      f_Mo_mergeNew_99 l0 n (l1 + (1 : Int32)) h7
    )
set_option maxHeartbeats 4000000 in
set_option maxRecDepth 100000 in
theorem t_Mo_mergeNew_99 {l0 : Nat} {r : Hp} (C : Cx base D cI cZ b_Mo_mergeNew 4 "MovedFoldersModel" "mergeNew" none p s m args meth c)  : ∀ (n : Nat) (l1 : Int32) (h : Hp), f_Mo_mergeNew_99 l0 n l1 h = some r → ∀ (H : Heap) (locs : List Loc) (ls : Array Slot), RS base D cI cZ s H locs h → lv_has ls 4 [(0, .ref (base + l0)), (1, .int l1)] → Wg l base D cI cZ 6 137 0 0 r none p e s m args below meth c H locs 0 0 (F0 m 99 ls []) := by
  have hx := C.1
  have hb := C.2.1
  intro n
  induction n with
  | zero =>
    intro l1 h hM
    rw [f_Mo_mergeNew_99] at hM
    cases hM
  | succ n ih =>
    intro l1 h hM H locs ls hS hl
    rw [f_Mo_mergeNew_99] at hM
    refine lv_iload_n hx hb d_Mo_mergeNew_99 rfl (lv_at hl 1 rfl) ?_
    refine lv_aload_n hx hb d_Mo_mergeNew_100 rfl (lv_at hl 0 rfl) ?_
    obtain ⟨t3, et3, hM⟩ := bS hM
    refine r_getR C hS fl_Mo_16 et3 d_Mo_mergeNew_101 ?_
    refine lv_iconst (v := (2 : Int32)) hx hb d_Mo_mergeNew_104 (by decide) ?_
    obtain ⟨t4, et4, hM⟩ := bS hM
    refine r_iald C hS et4 d_Mo_mergeNew_105 ?_
    refine lv_icmp_ge (tgt := 158) hx hb d_Mo_mergeNew_106 (by decide) (fun c106_3 => ?_) (fun c106_3 => ?_)
    · rw [if_pos c106_3] at hM
      obtain rfl := Option.some.inj hM
      exact r_vret C hS d_Mo_mergeNew_158
    · rw [if_neg c106_3] at hM
      refine lv_aload_n hx hb d_Mo_mergeNew_109 rfl (lv_at hl 0 rfl) ?_
      obtain ⟨t5, et5, hM⟩ := bS hM
      refine r_getR C hS fl_Mo_32 et5 d_Mo_mergeNew_110 ?_
      refine lv_bipush (v := (24 : Int32)) hx hb d_Mo_mergeNew_113 (by decide) ?_
      refine lv_iload_n hx hb d_Mo_mergeNew_115 rfl (lv_at hl 1 rfl) ?_
      refine lv_iadd hx hb d_Mo_mergeNew_116 ?_
      obtain ⟨t6, et6, hM⟩ := bS hM
      refine r_iald C hS et6 d_Mo_mergeNew_117 ?_
      obtain ⟨h7, eh7, hM⟩ := bS hM
      have kJ152_4 : ∀ (H : Heap) (locs : List Loc) (ls : Array Slot), RS base D cI cZ s H locs h7 → lv_has ls 4 [(0, .ref (base + l0)), (1, .int l1)] → Wg l base D cI cZ 6 137 0 0 r none p e s m args below meth c H locs 0 0 (F0 m 152 ls []) := by
        intro H locs ls hS hl
        refine lv_iinc (v := (l1 + (1 : Int32))) (lv' := [(1, .int (l1 + (1 : Int32))), (0, .ref (base + l0))]) hx hb d_Mo_mergeNew_152 hl (k := 1) rfl (by rw [oi_1]) (by decide) rfl (fun ls hl => ?_)
        refine lv_goto (tgt := 99) hx hb d_Mo_mergeNew_155 (by decide) ?_
        exact ih (l1 + (1 : Int32)) h7 hM _ _ _ hS (lv_sub hl [1, 0] rfl)
      refine lv_if_ge (tgt := 152) hx hb d_Mo_mergeNew_118 (by decide) (fun c118_5 => ?_) (fun c118_5 => ?_)
      · rw [if_pos c118_5] at eh7
        obtain rfl := Option.some.inj eh7
        exact kJ152_4 _ _ _ hS (lv_sub hl [0, 1] rfl)
      · rw [if_neg c118_5] at eh7
        refine lv_aload_n hx hb d_Mo_mergeNew_121 rfl (lv_at hl 0 rfl) ?_
        obtain ⟨t8, et8, eh7⟩ := bS eh7
        refine r_getR C hS fl_Mo_54 et8 d_Mo_mergeNew_122 ?_
        refine lv_iload_n hx hb d_Mo_mergeNew_125 rfl (lv_at hl 1 rfl) ?_
        obtain ⟨t9, et9, eh7⟩ := bS eh7
        refine r_zald C hS et9 d_Mo_mergeNew_126 ?_
        refine lv_if_ne (tgt := 152) hx hb d_Mo_mergeNew_127 (by decide) (fun c127_6 => ?_) (fun c127_6 => ?_)
        · rw [if_neg c127_6] at eh7
          obtain rfl := Option.some.inj eh7
          exact kJ152_4 _ _ _ hS (lv_sub hl [0, 1] rfl)
        · rw [if_pos c127_6] at eh7
          refine lv_aload_n hx hb d_Mo_mergeNew_130 rfl (lv_at hl 0 rfl) ?_
          refine lv_aload_n hx hb d_Mo_mergeNew_131 rfl (lv_at hl 0 rfl) ?_
          refine lv_iconst (v := (2 : Int32)) hx hb d_Mo_mergeNew_132 (by decide) ?_
          refine lv_iload_n hx hb d_Mo_mergeNew_133 rfl (lv_at hl 1 rfl) ?_
          obtain ⟨q10, eq10, eh7⟩ := bS eh7
          refine r_callVi (x := q10.1) C hS cv_Mo_246 (c_Mo_newPath l base D cI cZ h l0 (2 : Int32) l1 eq10) (o_Mo_newPath eq10) (rest := [.ref (base + l0)]) rfl hl.1 rfl (Nat.le_of_ble_eq_true rfl) ⟨(Nat.le_of_ble_eq_true rfl), (Nat.le_of_ble_eq_true rfl)⟩ ⟨(Nat.le_of_ble_eq_true rfl), (Nat.le_of_ble_eq_true rfl)⟩ d_Mo_mergeNew_134 (fun H locs hS => ?_)
          refine lv_aload_n hx hb d_Mo_mergeNew_137 rfl (lv_at hl 0 rfl) ?_
          refine lv_iconst (v := (2 : Int32)) hx hb d_Mo_mergeNew_138 (by decide) ?_
          refine lv_iload_n hx hb d_Mo_mergeNew_139 rfl (lv_at hl 1 rfl) ?_
          obtain ⟨t11, et11, eh7⟩ := bS eh7
          refine r_callVi (x := t11) C hS cv_Mo_132 (c_Mo_contentAt l base D cI cZ q10.2 l0 (2 : Int32) l1 et11) (o_Mo_contentAt et11) (rest := [.int q10.1, .ref (base + l0)]) rfl hl.1 rfl (Nat.le_of_ble_eq_true rfl) ⟨(Nat.le_of_ble_eq_true rfl), (Nat.le_of_ble_eq_true rfl)⟩ ⟨(Nat.le_of_ble_eq_true rfl), (Nat.le_of_ble_eq_true rfl)⟩ d_Mo_mergeNew_140 (fun H locs hS => ?_)
          refine lv_iconst (v := (0 : Int32)) hx hb d_Mo_mergeNew_143 (by decide) ?_
          refine lv_sipush (v := (200 : Int32)) hx hb d_Mo_mergeNew_144 (by decide) ?_
          refine lv_iload_n hx hb d_Mo_mergeNew_147 rfl (lv_at hl 1 rfl) ?_
          refine lv_iadd hx hb d_Mo_mergeNew_148 ?_
          obtain ⟨h12, eh12, eh7⟩ := bS eh7
          refine r_callVv C hS cv_Mo_243 (c_Mo_addEntry l base D cI cZ q10.2 l0 q10.1 t11 (0 : Int32) ((200 : Int32) + l1) eh12) (o_Mo_addEntry eh12) (rest := []) rfl hl.1 rfl (Nat.le_of_ble_eq_true rfl) ⟨(Nat.le_of_ble_eq_true rfl), (Nat.le_of_ble_eq_true rfl)⟩ ⟨(Nat.le_of_ble_eq_true rfl), (Nat.le_of_ble_eq_true rfl)⟩ d_Mo_mergeNew_149 (fun H locs hS => ?_)
          obtain rfl := Option.some.inj eh7
          exact kJ152_4 _ _ _ hS (lv_sub hl [0, 1] rfl)
def f_Mo_mergeNew_23 (l0 : Nat) : Nat → Int32 → Hp → Option Hp
  | 0, _, _ => none
  | n + 1, l1, h =>
    (gR h 9 l0 2).bind fun t1 =>
    (gA h false t1 (1 : Int32)).bind fun t2 =>
    if t2 ≤ l1 then (
      f_Mo_mergeNew_99 l0 FU (0 : Int32) h
    ) else (
      (gR h 9 l0 13).bind fun t13 =>
      (gA h false t13 ((12 : Int32) + l1)).bind fun t14 =>
      (
        if (0 : Int32) ≤ t14 then (
          some h
        ) else (
          (f_Mo_newPath h l0 (1 : Int32) l1).bind fun q16 =>
          (f_Mo_contentAt q16.2 l0 (1 : Int32) l1).bind fun t17 =>
          (f_Mo_twinOf q16.2 l0 q16.1 t17).bind fun q18 =>
          (f_Mo_contentAt q18.2 l0 (1 : Int32) l1).bind fun t19 =>
          (f_Mo_addEntry q18.2 l0 q16.1 t19 (0 : Int32) ((100 : Int32) + l1)).bind fun h20 =>
          if q18.1 < (0 : Int32) then (
            some h20
          ) else (
            (gR h20 9 l0 22).bind fun t21 =>
            (sZ h20 t21 q18.1 (1 : Int32)).bind fun h22 =>
            some h22
          )
        )
      ).bind fun h15 =>
      f_Mo_mergeNew_23 l0 n (l1 + (1 : Int32)) h15
    )
set_option maxHeartbeats 4000000 in
set_option maxRecDepth 100000 in
theorem t_Mo_mergeNew_23 {l0 : Nat} {r : Hp} (C : Cx base D cI cZ b_Mo_mergeNew 4 "MovedFoldersModel" "mergeNew" none p s m args meth c)  : ∀ (n : Nat) (l1 : Int32) (h : Hp), f_Mo_mergeNew_23 l0 n l1 h = some r → ∀ (H : Heap) (locs : List Loc) (ls : Array Slot), RS base D cI cZ s H locs h → lv_has ls 4 [(0, .ref (base + l0)), (1, .int l1)] → Wg l base D cI cZ 6 137 0 0 r none p e s m args below meth c H locs 0 0 (F0 m 23 ls []) := by
  have hx := C.1
  have hb := C.2.1
  intro n
  induction n with
  | zero =>
    intro l1 h hM
    rw [f_Mo_mergeNew_23] at hM
    cases hM
  | succ n ih =>
    intro l1 h hM H locs ls hS hl
    rw [f_Mo_mergeNew_23] at hM
    refine lv_iload_n hx hb d_Mo_mergeNew_23 rfl (lv_at hl 1 rfl) ?_
    refine lv_aload_n hx hb d_Mo_mergeNew_24 rfl (lv_at hl 0 rfl) ?_
    obtain ⟨t1, et1, hM⟩ := bS hM
    refine r_getR C hS fl_Mo_16 et1 d_Mo_mergeNew_25 ?_
    refine lv_iconst (v := (1 : Int32)) hx hb d_Mo_mergeNew_28 (by decide) ?_
    obtain ⟨t2, et2, hM⟩ := bS hM
    refine r_iald C hS et2 d_Mo_mergeNew_29 ?_
    refine lv_icmp_ge (tgt := 97) hx hb d_Mo_mergeNew_30 (by decide) (fun c30_2 => ?_) (fun c30_2 => ?_)
    · rw [if_pos c30_2] at hM
      refine lv_iconst (v := (0 : Int32)) hx hb d_Mo_mergeNew_97 (by decide) ?_
      refine lv_istore_n (lv' := [(1, .int (0 : Int32)), (0, .ref (base + l0))]) hx hb d_Mo_mergeNew_98 rfl hl (by decide) rfl (fun ls hl => ?_)
      exact t_Mo_mergeNew_99  C  FU (0 : Int32) h hM _ _ _ hS (lv_sub hl [1, 0] rfl)
    · rw [if_neg c30_2] at hM
      refine lv_aload_n hx hb d_Mo_mergeNew_33 rfl (lv_at hl 0 rfl) ?_
      obtain ⟨t13, et13, hM⟩ := bS hM
      refine r_getR C hS fl_Mo_32 et13 d_Mo_mergeNew_34 ?_
      refine lv_bipush (v := (12 : Int32)) hx hb d_Mo_mergeNew_37 (by decide) ?_
      refine lv_iload_n hx hb d_Mo_mergeNew_39 rfl (lv_at hl 1 rfl) ?_
      refine lv_iadd hx hb d_Mo_mergeNew_40 ?_
      obtain ⟨t14, et14, hM⟩ := bS hM
      refine r_iald C hS et14 d_Mo_mergeNew_41 ?_
      obtain ⟨h15, eh15, hM⟩ := bS hM
      have kJ91_7 : ∀ (H : Heap) (locs : List Loc) (ls : Array Slot), RS base D cI cZ s H locs h15 → lv_has ls 4 [(0, .ref (base + l0)), (1, .int l1)] → Wg l base D cI cZ 6 137 0 0 r none p e s m args below meth c H locs 0 0 (F0 m 91 ls []) := by
        intro H locs ls hS hl
        refine lv_iinc (v := (l1 + (1 : Int32))) (lv' := [(1, .int (l1 + (1 : Int32))), (0, .ref (base + l0))]) hx hb d_Mo_mergeNew_91 hl (k := 1) rfl (by rw [oi_1]) (by decide) rfl (fun ls hl => ?_)
        refine lv_goto (tgt := 23) hx hb d_Mo_mergeNew_94 (by decide) ?_
        exact ih (l1 + (1 : Int32)) h15 hM _ _ _ hS (lv_sub hl [1, 0] rfl)
      refine lv_if_ge (tgt := 91) hx hb d_Mo_mergeNew_42 (by decide) (fun c42_8 => ?_) (fun c42_8 => ?_)
      · rw [if_pos c42_8] at eh15
        obtain rfl := Option.some.inj eh15
        exact kJ91_7 _ _ _ hS (lv_sub hl [0, 1] rfl)
      · rw [if_neg c42_8] at eh15
        refine lv_aload_n hx hb d_Mo_mergeNew_45 rfl (lv_at hl 0 rfl) ?_
        refine lv_iconst (v := (1 : Int32)) hx hb d_Mo_mergeNew_46 (by decide) ?_
        refine lv_iload_n hx hb d_Mo_mergeNew_47 rfl (lv_at hl 1 rfl) ?_
        obtain ⟨q16, eq16, eh15⟩ := bS eh15
        refine r_callVi (x := q16.1) C hS cv_Mo_246 (c_Mo_newPath l base D cI cZ h l0 (1 : Int32) l1 eq16) (o_Mo_newPath eq16) (rest := []) rfl hl.1 rfl (Nat.le_of_ble_eq_true rfl) ⟨(Nat.le_of_ble_eq_true rfl), (Nat.le_of_ble_eq_true rfl)⟩ ⟨(Nat.le_of_ble_eq_true rfl), (Nat.le_of_ble_eq_true rfl)⟩ d_Mo_mergeNew_48 (fun H locs hS => ?_)
        refine lv_istore_n (lv' := [(2, .int q16.1), (0, .ref (base + l0)), (1, .int l1)]) hx hb d_Mo_mergeNew_51 rfl hl (by decide) rfl (fun ls hl => ?_)
        refine lv_aload_n hx hb d_Mo_mergeNew_52 rfl (lv_at hl 1 rfl) ?_
        refine lv_iload_n hx hb d_Mo_mergeNew_53 rfl (lv_at hl 0 rfl) ?_
        refine lv_aload_n hx hb d_Mo_mergeNew_54 rfl (lv_at hl 1 rfl) ?_
        refine lv_iconst (v := (1 : Int32)) hx hb d_Mo_mergeNew_55 (by decide) ?_
        refine lv_iload_n hx hb d_Mo_mergeNew_56 rfl (lv_at hl 2 rfl) ?_
        obtain ⟨t17, et17, eh15⟩ := bS eh15
        refine r_callVi (x := t17) C hS cv_Mo_132 (c_Mo_contentAt l base D cI cZ q16.2 l0 (1 : Int32) l1 et17) (o_Mo_contentAt et17) (rest := [.int q16.1, .ref (base + l0)]) rfl hl.1 rfl (Nat.le_of_ble_eq_true rfl) ⟨(Nat.le_of_ble_eq_true rfl), (Nat.le_of_ble_eq_true rfl)⟩ ⟨(Nat.le_of_ble_eq_true rfl), (Nat.le_of_ble_eq_true rfl)⟩ d_Mo_mergeNew_57 (fun H locs hS => ?_)
        obtain ⟨q18, eq18, eh15⟩ := bS eh15
        refine r_callVi (x := q18.1) C hS cv_Mo_249 (c_Mo_twinOf l base D cI cZ q16.2 l0 q16.1 t17 eq18) (o_Mo_twinOf eq18) (rest := []) rfl hl.1 rfl (Nat.le_of_ble_eq_true rfl) ⟨(Nat.le_of_ble_eq_true rfl), (Nat.le_of_ble_eq_true rfl)⟩ ⟨(Nat.le_of_ble_eq_true rfl), (Nat.le_of_ble_eq_true rfl)⟩ d_Mo_mergeNew_60 (fun H locs hS => ?_)
        refine lv_istore_n (lv' := [(3, .int q18.1), (2, .int q16.1), (0, .ref (base + l0)), (1, .int l1)]) hx hb d_Mo_mergeNew_63 rfl hl (by decide) rfl (fun ls hl => ?_)
        refine lv_aload_n hx hb d_Mo_mergeNew_64 rfl (lv_at hl 2 rfl) ?_
        refine lv_iload_n hx hb d_Mo_mergeNew_65 rfl (lv_at hl 1 rfl) ?_
        refine lv_aload_n hx hb d_Mo_mergeNew_66 rfl (lv_at hl 2 rfl) ?_
        refine lv_iconst (v := (1 : Int32)) hx hb d_Mo_mergeNew_67 (by decide) ?_
        refine lv_iload_n hx hb d_Mo_mergeNew_68 rfl (lv_at hl 3 rfl) ?_
        obtain ⟨t19, et19, eh15⟩ := bS eh15
        refine r_callVi (x := t19) C hS cv_Mo_132 (c_Mo_contentAt l base D cI cZ q18.2 l0 (1 : Int32) l1 et19) (o_Mo_contentAt et19) (rest := [.int q16.1, .ref (base + l0)]) rfl hl.1 rfl (Nat.le_of_ble_eq_true rfl) ⟨(Nat.le_of_ble_eq_true rfl), (Nat.le_of_ble_eq_true rfl)⟩ ⟨(Nat.le_of_ble_eq_true rfl), (Nat.le_of_ble_eq_true rfl)⟩ d_Mo_mergeNew_69 (fun H locs hS => ?_)
        refine lv_iconst (v := (0 : Int32)) hx hb d_Mo_mergeNew_72 (by decide) ?_
        refine lv_bipush (v := (100 : Int32)) hx hb d_Mo_mergeNew_73 (by decide) ?_
        refine lv_iload_n hx hb d_Mo_mergeNew_75 rfl (lv_at hl 3 rfl) ?_
        refine lv_iadd hx hb d_Mo_mergeNew_76 ?_
        obtain ⟨h20, eh20, eh15⟩ := bS eh15
        refine r_callVv C hS cv_Mo_243 (c_Mo_addEntry l base D cI cZ q18.2 l0 q16.1 t19 (0 : Int32) ((100 : Int32) + l1) eh20) (o_Mo_addEntry eh20) (rest := []) rfl hl.1 rfl (Nat.le_of_ble_eq_true rfl) ⟨(Nat.le_of_ble_eq_true rfl), (Nat.le_of_ble_eq_true rfl)⟩ ⟨(Nat.le_of_ble_eq_true rfl), (Nat.le_of_ble_eq_true rfl)⟩ d_Mo_mergeNew_77 (fun H locs hS => ?_)
        refine lv_iload_n hx hb d_Mo_mergeNew_80 rfl (lv_at hl 0 rfl) ?_
        refine lv_if_lt (tgt := 91) hx hb d_Mo_mergeNew_81 (by decide) (fun c81_9 => ?_) (fun c81_9 => ?_)
        · rw [if_pos c81_9] at eh15
          obtain rfl := Option.some.inj eh15
          exact kJ91_7 _ _ _ hS (lv_sub hl [2, 3] rfl)
        · rw [if_neg c81_9] at eh15
          refine lv_aload_n hx hb d_Mo_mergeNew_84 rfl (lv_at hl 2 rfl) ?_
          obtain ⟨t21, et21, eh15⟩ := bS eh15
          refine r_getR C hS fl_Mo_54 et21 d_Mo_mergeNew_85 ?_
          refine lv_iload_n hx hb d_Mo_mergeNew_88 rfl (lv_at hl 0 rfl) ?_
          refine lv_iconst (v := (1 : Int32)) hx hb d_Mo_mergeNew_89 (by decide) ?_
          obtain ⟨h22, eh22, eh15⟩ := bS eh15
          refine r_zast C hS eh22 d_Mo_mergeNew_90 (fun H locs hS => ?_)
          obtain rfl := Option.some.inj eh15
          exact kJ91_7 _ _ _ hS (lv_sub hl [2, 3] rfl)
def f_Mo_mergeNew_2 (l0 : Nat) : Nat → Int32 → Hp → Option Hp
  | 0, _, _ => none
  | n + 1, l1, h =>
    if (12 : Int32) ≤ l1 then (
      f_Mo_mergeNew_23 l0 FU (0 : Int32) h
    ) else (
      (gR h 9 l0 22).bind fun t23 =>
      (sZ h t23 l1 (0 : Int32)).bind fun h24 =>
      f_Mo_mergeNew_2 l0 n (l1 + (1 : Int32)) h24
    )
set_option maxHeartbeats 4000000 in
set_option maxRecDepth 100000 in
theorem t_Mo_mergeNew_2 {l0 : Nat} {r : Hp} (C : Cx base D cI cZ b_Mo_mergeNew 4 "MovedFoldersModel" "mergeNew" none p s m args meth c)  : ∀ (n : Nat) (l1 : Int32) (h : Hp), f_Mo_mergeNew_2 l0 n l1 h = some r → ∀ (H : Heap) (locs : List Loc) (ls : Array Slot), RS base D cI cZ s H locs h → lv_has ls 4 [(0, .ref (base + l0)), (1, .int l1)] → Wg l base D cI cZ 6 137 0 0 r none p e s m args below meth c H locs 0 0 (F0 m 2 ls []) := by
  have hx := C.1
  have hb := C.2.1
  intro n
  induction n with
  | zero =>
    intro l1 h hM
    rw [f_Mo_mergeNew_2] at hM
    cases hM
  | succ n ih =>
    intro l1 h hM H locs ls hS hl
    rw [f_Mo_mergeNew_2] at hM
    refine lv_iload_n hx hb d_Mo_mergeNew_2 rfl (lv_at hl 1 rfl) ?_
    refine lv_bipush (v := (12 : Int32)) hx hb d_Mo_mergeNew_3 (by decide) ?_
    refine lv_icmp_ge (tgt := 21) hx hb d_Mo_mergeNew_5 (by decide) (fun c5_1 => ?_) (fun c5_1 => ?_)
    · rw [if_pos c5_1] at hM
      refine lv_iconst (v := (0 : Int32)) hx hb d_Mo_mergeNew_21 (by decide) ?_
      refine lv_istore_n (lv' := [(1, .int (0 : Int32)), (0, .ref (base + l0))]) hx hb d_Mo_mergeNew_22 rfl hl (by decide) rfl (fun ls hl => ?_)
      exact t_Mo_mergeNew_23  C  FU (0 : Int32) h hM _ _ _ hS (lv_sub hl [1, 0] rfl)
    · rw [if_neg c5_1] at hM
      refine lv_aload_n hx hb d_Mo_mergeNew_8 rfl (lv_at hl 0 rfl) ?_
      obtain ⟨t23, et23, hM⟩ := bS hM
      refine r_getR C hS fl_Mo_54 et23 d_Mo_mergeNew_9 ?_
      refine lv_iload_n hx hb d_Mo_mergeNew_12 rfl (lv_at hl 1 rfl) ?_
      refine lv_iconst (v := (0 : Int32)) hx hb d_Mo_mergeNew_13 (by decide) ?_
      obtain ⟨h24, eh24, hM⟩ := bS hM
      refine r_zast C hS eh24 d_Mo_mergeNew_14 (fun H locs hS => ?_)
      refine lv_iinc (v := (l1 + (1 : Int32))) (lv' := [(1, .int (l1 + (1 : Int32))), (0, .ref (base + l0))]) hx hb d_Mo_mergeNew_15 hl (k := 1) rfl (by rw [oi_1]) (by decide) rfl (fun ls hl => ?_)
      refine lv_goto (tgt := 2) hx hb d_Mo_mergeNew_18 (by decide) ?_
      exact ih (l1 + (1 : Int32)) h24 hM _ _ _ hS (lv_sub hl [1, 0] rfl)
def f_Mo_mergeNew (h : Hp) (l0 : Nat) : Option Hp :=
  ck h 9 l0 (
    f_Mo_mergeNew_2 l0 FU (0 : Int32) h
  )
theorem o_Mo_mergeNew {h : Hp} {l0 : Nat} {r : Hp} (hM : f_Mo_mergeNew h l0 = some r) : isO h 9 l0 = true := by
  unfold f_Mo_mergeNew at hM
  exact (ck_some hM).1
set_option maxHeartbeats 4000000 in
set_option maxRecDepth 100000 in
theorem t_Mo_mergeNew {h : Hp} {l0 : Nat} {r : Hp} (C : Cx base D cI cZ b_Mo_mergeNew 4 "MovedFoldersModel" "mergeNew" none p s m args meth c) (hM : f_Mo_mergeNew h l0 = some r) (H : Heap) (locs : List Loc) (ls : Array Slot) (hS : RS base D cI cZ s H locs h) (hl : lv_has ls 4 [(0, .ref (base + l0))]) : Wg l base D cI cZ 6 137 0 0 r none p e s m args below meth c H locs 0 0 (F0 m 0 ls []) := by
  have hx := C.1
  have hb := C.2.1
  unfold f_Mo_mergeNew at hM
  replace hM := (ck_some hM).2
  refine lv_iconst (v := (0 : Int32)) hx hb d_Mo_mergeNew_0 (by decide) ?_
  refine lv_istore_n (lv' := [(1, .int (0 : Int32)), (0, .ref (base + l0))]) hx hb d_Mo_mergeNew_1 rfl hl (by decide) rfl (fun ls hl => ?_)
  exact t_Mo_mergeNew_2  C  FU (0 : Int32) h hM _ _ _ hS (lv_sub hl [1, 0] rfl)
theorem c_Mo_mergeNew (l : Launch) (base : Nat) (D : va_G) (cI cZ : ClassId) (h : Hp) (l0 : Nat) {r : Hp} (hM : f_Mo_mergeNew h l0 = some r) : Ct l base D cI cZ y_Mo_mergeNew b_Mo_mergeNew 4 none 6 137 0 0 h [.ref (base + l0)] r none :=
  ct_of (by decide) (Nat.le_of_ble_eq_true rfl) (fun p e s m below meth c ls C hS hl => t_Mo_mergeNew C hM _ _ _ hS hl)
theorem d_Mo_meetAll_0 : decode b_Mo_meetAll 0 = .ok (.iconst 0, 1) := by decide +kernel
theorem d_Mo_meetAll_1 : decode b_Mo_meetAll 1 = .ok (.istore_n 1, 1) := by decide +kernel
theorem d_Mo_meetAll_2 : decode b_Mo_meetAll 2 = .ok (.iload_n 1, 1) := by decide +kernel
theorem d_Mo_meetAll_3 : decode b_Mo_meetAll 3 = .ok (.aload_n 0, 1) := by decide +kernel
theorem d_Mo_meetAll_4 : decode b_Mo_meetAll 4 = .ok (.getfield 219, 3) := by decide +kernel
theorem d_Mo_meetAll_7 : decode b_Mo_meetAll 7 = .ok (.if_icmp .ge 56, 3) := by decide +kernel
theorem d_Mo_meetAll_10 : decode b_Mo_meetAll 10 = .ok (.iconst 0, 1) := by decide +kernel
theorem d_Mo_meetAll_11 : decode b_Mo_meetAll 11 = .ok (.istore_n 2, 1) := by decide +kernel
theorem d_Mo_meetAll_12 : decode b_Mo_meetAll 12 = .ok (.iload_n 2, 1) := by decide +kernel
theorem d_Mo_meetAll_13 : decode b_Mo_meetAll 13 = .ok (.aload_n 0, 1) := by decide +kernel
theorem d_Mo_meetAll_14 : decode b_Mo_meetAll 14 = .ok (.getfield 219, 3) := by decide +kernel
theorem d_Mo_meetAll_17 : decode b_Mo_meetAll 17 = .ok (.if_icmp .ge 40, 3) := by decide +kernel
theorem d_Mo_meetAll_20 : decode b_Mo_meetAll 20 = .ok (.iload_n 1, 1) := by decide +kernel
theorem d_Mo_meetAll_21 : decode b_Mo_meetAll 21 = .ok (.iload_n 2, 1) := by decide +kernel
theorem d_Mo_meetAll_22 : decode b_Mo_meetAll 22 = .ok (.if_icmp .eq 29, 3) := by decide +kernel
theorem d_Mo_meetAll_25 : decode b_Mo_meetAll 25 = .ok (.aload_n 0, 1) := by decide +kernel
theorem d_Mo_meetAll_26 : decode b_Mo_meetAll 26 = .ok (.getfield 42, 3) := by decide +kernel
theorem d_Mo_meetAll_29 : decode b_Mo_meetAll 29 = .ok (.iload_n 1, 1) := by decide +kernel
theorem d_Mo_meetAll_30 : decode b_Mo_meetAll 30 = .ok (.iaload, 1) := by decide +kernel
theorem d_Mo_meetAll_31 : decode b_Mo_meetAll 31 = .ok (.aload_n 0, 1) := by decide +kernel
theorem d_Mo_meetAll_32 : decode b_Mo_meetAll 32 = .ok (.getfield 42, 3) := by decide +kernel
theorem d_Mo_meetAll_35 : decode b_Mo_meetAll 35 = .ok (.iload_n 2, 1) := by decide +kernel
theorem d_Mo_meetAll_36 : decode b_Mo_meetAll 36 = .ok (.iaload, 1) := by decide +kernel
theorem d_Mo_meetAll_37 : decode b_Mo_meetAll 37 = .ok (.if_icmp .ne 14, 3) := by decide +kernel
theorem d_Mo_meetAll_40 : decode b_Mo_meetAll 40 = .ok (.aload_n 0, 1) := by decide +kernel
theorem d_Mo_meetAll_41 : decode b_Mo_meetAll 41 = .ok (.getfield 48, 3) := by decide +kernel
theorem d_Mo_meetAll_44 : decode b_Mo_meetAll 44 = .ok (.iload_n 1, 1) := by decide +kernel
theorem d_Mo_meetAll_45 : decode b_Mo_meetAll 45 = .ok (.dup2, 1) := by decide +kernel
theorem d_Mo_meetAll_46 : decode b_Mo_meetAll 46 = .ok (.iaload, 1) := by decide +kernel
theorem d_Mo_meetAll_47 : decode b_Mo_meetAll 47 = .ok (.bipush 8, 2) := by decide +kernel
theorem d_Mo_meetAll_49 : decode b_Mo_meetAll 49 = .ok (.ior, 1) := by decide +kernel
theorem d_Mo_meetAll_50 : decode b_Mo_meetAll 50 = .ok (.iastore, 1) := by decide +kernel
theorem d_Mo_meetAll_51 : decode b_Mo_meetAll 51 = .ok (.iinc 2 1, 3) := by decide +kernel
theorem d_Mo_meetAll_54 : decode b_Mo_meetAll 54 = .ok (.goto (-42), 3) := by decide +kernel
theorem d_Mo_meetAll_57 : decode b_Mo_meetAll 57 = .ok (.iinc 1 1, 3) := by decide +kernel
theorem d_Mo_meetAll_60 : decode b_Mo_meetAll 60 = .ok (.goto (-58), 3) := by decide +kernel
theorem d_Mo_meetAll_63 : decode b_Mo_meetAll 63 = .ok (.return_, 1) := by decide +kernel
def f_Mo_meetAll_12 (l0 : Nat) (l1 : Int32) (k2 : Int32 → Hp → Option Hp) : Nat → Int32 → Hp → Option Hp
  | 0, _, _ => none
  | n + 1, l2, h =>
    (gI h 9 l0 20).bind fun t2 =>
    if t2 ≤ l2 then (
      k2 (l1 + (1 : Int32)) h
    ) else (
      (
        if l1 = l2 then (
          some h
        ) else (
          (gR h 9 l0 16).bind fun t4 =>
          (gA h false t4 l1).bind fun t5 =>
          (gR h 9 l0 16).bind fun t6 =>
          (gA h false t6 l2).bind fun t7 =>
          if t5 = t7 then (
            (gR h 9 l0 18).bind fun t8 =>
            (gA h false t8 l1).bind fun t9 =>
            (sA h t8 l1 (t9 ||| (8 : Int32))).bind fun h10 =>
            some h10
          ) else (
            some h
          )
        )
      ).bind fun h3 =>
      f_Mo_meetAll_12 l0 l1 k2 n (l2 + (1 : Int32)) h3
    )
set_option maxHeartbeats 4000000 in
set_option maxRecDepth 100000 in
theorem t_Mo_meetAll_12 {l0 : Nat} {l1 : Int32} {k2 : Int32 → Hp → Option Hp} {r : Hp} (C : Cx base D cI cZ b_Mo_meetAll 3 "MovedFoldersModel" "meetAll" none p s m args meth c) (hk2 : ∀ (l1 : Int32) (h : Hp), k2 l1 h = some r → ∀ (H : Heap) (locs : List Loc) (ls : Array Slot), RS base D cI cZ s H locs h → lv_has ls 3 [(0, .ref (base + l0)), (1, .int l1)] → Wg l base D cI cZ 0 0 0 0 r none p e s m args below meth c H locs 0 0 (F0 m 2 ls [])) : ∀ (n : Nat) (l2 : Int32) (h : Hp), f_Mo_meetAll_12 l0 l1 k2 n l2 h = some r → ∀ (H : Heap) (locs : List Loc) (ls : Array Slot), RS base D cI cZ s H locs h → lv_has ls 3 [(0, .ref (base + l0)), (1, .int l1), (2, .int l2)] → Wg l base D cI cZ 0 0 0 0 r none p e s m args below meth c H locs 0 0 (F0 m 12 ls []) := by
  have hx := C.1
  have hb := C.2.1
  intro n
  induction n with
  | zero =>
    intro l2 h hM
    rw [f_Mo_meetAll_12] at hM
    cases hM
  | succ n ih =>
    intro l2 h hM H locs ls hS hl
    rw [f_Mo_meetAll_12] at hM
    refine lv_iload_n hx hb d_Mo_meetAll_12 rfl (lv_at hl 2 rfl) ?_
    refine lv_aload_n hx hb d_Mo_meetAll_13 rfl (lv_at hl 0 rfl) ?_
    obtain ⟨t2, et2, hM⟩ := bS hM
    refine r_getI C hS fl_Mo_219 et2 d_Mo_meetAll_14 ?_
    refine lv_icmp_ge (tgt := 57) hx hb d_Mo_meetAll_17 (by decide) (fun c17_2 => ?_) (fun c17_2 => ?_)
    · rw [if_pos c17_2] at hM
      refine lv_iinc (v := (l1 + (1 : Int32))) (lv' := [(1, .int (l1 + (1 : Int32))), (0, .ref (base + l0)), (2, .int l2)]) hx hb d_Mo_meetAll_57 hl (k := 1) rfl (by rw [oi_1]) (by decide) rfl (fun ls hl => ?_)
      refine lv_goto (tgt := 2) hx hb d_Mo_meetAll_60 (by decide) ?_
      exact hk2 (l1 + (1 : Int32)) h hM _ _ _ hS (lv_sub hl [1, 0] rfl)
    · rw [if_neg c17_2] at hM
      refine lv_iload_n hx hb d_Mo_meetAll_20 rfl (lv_at hl 1 rfl) ?_
      refine lv_iload_n hx hb d_Mo_meetAll_21 rfl (lv_at hl 2 rfl) ?_
      obtain ⟨h3, eh3, hM⟩ := bS hM
      have kJ51_3 : ∀ (H : Heap) (locs : List Loc) (ls : Array Slot), RS base D cI cZ s H locs h3 → lv_has ls 3 [(0, .ref (base + l0)), (1, .int l1), (2, .int l2)] → Wg l base D cI cZ 0 0 0 0 r none p e s m args below meth c H locs 0 0 (F0 m 51 ls []) := by
        intro H locs ls hS hl
        refine lv_iinc (v := (l2 + (1 : Int32))) (lv' := [(2, .int (l2 + (1 : Int32))), (0, .ref (base + l0)), (1, .int l1)]) hx hb d_Mo_meetAll_51 hl (k := 2) rfl (by rw [oi_1]) (by decide) rfl (fun ls hl => ?_)
        refine lv_goto (tgt := 12) hx hb d_Mo_meetAll_54 (by decide) ?_
        exact ih (l2 + (1 : Int32)) h3 hM _ _ _ hS (lv_sub hl [1, 2, 0] rfl)
      refine lv_icmp_eq (tgt := 51) hx hb d_Mo_meetAll_22 (by decide) (fun c22_4 => ?_) (fun c22_4 => ?_)
      · rw [if_pos c22_4] at eh3
        obtain rfl := Option.some.inj eh3
        exact kJ51_3 _ _ _ hS (lv_sub hl [0, 1, 2] rfl)
      · rw [if_neg c22_4] at eh3
        refine lv_aload_n hx hb d_Mo_meetAll_25 rfl (lv_at hl 0 rfl) ?_
        obtain ⟨t4, et4, eh3⟩ := bS eh3
        refine r_getR C hS fl_Mo_42 et4 d_Mo_meetAll_26 ?_
        refine lv_iload_n hx hb d_Mo_meetAll_29 rfl (lv_at hl 1 rfl) ?_
        obtain ⟨t5, et5, eh3⟩ := bS eh3
        refine r_iald C hS et5 d_Mo_meetAll_30 ?_
        refine lv_aload_n hx hb d_Mo_meetAll_31 rfl (lv_at hl 0 rfl) ?_
        obtain ⟨t6, et6, eh3⟩ := bS eh3
        refine r_getR C hS fl_Mo_42 et6 d_Mo_meetAll_32 ?_
        refine lv_iload_n hx hb d_Mo_meetAll_35 rfl (lv_at hl 2 rfl) ?_
        obtain ⟨t7, et7, eh3⟩ := bS eh3
        refine r_iald C hS et7 d_Mo_meetAll_36 ?_
        refine lv_icmp_ne (tgt := 51) hx hb d_Mo_meetAll_37 (by decide) (fun c37_5 => ?_) (fun c37_5 => ?_)
        · rw [if_neg c37_5] at eh3
          obtain rfl := Option.some.inj eh3
          exact kJ51_3 _ _ _ hS (lv_sub hl [0, 1, 2] rfl)
        · rw [if_pos c37_5] at eh3
          refine lv_aload_n hx hb d_Mo_meetAll_40 rfl (lv_at hl 0 rfl) ?_
          obtain ⟨t8, et8, eh3⟩ := bS eh3
          refine r_getR C hS fl_Mo_48 et8 d_Mo_meetAll_41 ?_
          refine lv_iload_n hx hb d_Mo_meetAll_44 rfl (lv_at hl 1 rfl) ?_
          refine lv_dup2_11 hx hb d_Mo_meetAll_45 rfl rfl ?_
          obtain ⟨t9, et9, eh3⟩ := bS eh3
          refine r_iald C hS et9 d_Mo_meetAll_46 ?_
          refine lv_bipush (v := (8 : Int32)) hx hb d_Mo_meetAll_47 (by decide) ?_
          refine lv_ior hx hb d_Mo_meetAll_49 ?_
          obtain ⟨h10, eh10, eh3⟩ := bS eh3
          refine r_iast C hS eh10 d_Mo_meetAll_50 (fun H locs hS => ?_)
          obtain rfl := Option.some.inj eh3
          exact kJ51_3 _ _ _ hS (lv_sub hl [0, 1, 2] rfl)
def f_Mo_meetAll_2 (l0 : Nat) : Nat → Int32 → Hp → Option Hp
  | 0, _, _ => none
  | n + 1, l1, h =>
    (gI h 9 l0 20).bind fun t1 =>
    if t1 ≤ l1 then (
      some h
    ) else (
      f_Mo_meetAll_12 l0 l1 (fun l1 h => f_Mo_meetAll_2 l0 n l1 h) FU (0 : Int32) h
    )
set_option maxHeartbeats 4000000 in
set_option maxRecDepth 100000 in
theorem t_Mo_meetAll_2 {l0 : Nat} {r : Hp} (C : Cx base D cI cZ b_Mo_meetAll 3 "MovedFoldersModel" "meetAll" none p s m args meth c)  : ∀ (n : Nat) (l1 : Int32) (h : Hp), f_Mo_meetAll_2 l0 n l1 h = some r → ∀ (H : Heap) (locs : List Loc) (ls : Array Slot), RS base D cI cZ s H locs h → lv_has ls 3 [(0, .ref (base + l0)), (1, .int l1)] → Wg l base D cI cZ 0 0 0 0 r none p e s m args below meth c H locs 0 0 (F0 m 2 ls []) := by
  have hx := C.1
  have hb := C.2.1
  intro n
  induction n with
  | zero =>
    intro l1 h hM
    rw [f_Mo_meetAll_2] at hM
    cases hM
  | succ n ih =>
    intro l1 h hM H locs ls hS hl
    rw [f_Mo_meetAll_2] at hM
    refine lv_iload_n hx hb d_Mo_meetAll_2 rfl (lv_at hl 1 rfl) ?_
    refine lv_aload_n hx hb d_Mo_meetAll_3 rfl (lv_at hl 0 rfl) ?_
    obtain ⟨t1, et1, hM⟩ := bS hM
    refine r_getI C hS fl_Mo_219 et1 d_Mo_meetAll_4 ?_
    refine lv_icmp_ge (tgt := 63) hx hb d_Mo_meetAll_7 (by decide) (fun c7_1 => ?_) (fun c7_1 => ?_)
    · rw [if_pos c7_1] at hM
      obtain rfl := Option.some.inj hM
      exact r_vret C hS d_Mo_meetAll_63
    · rw [if_neg c7_1] at hM
      refine lv_iconst (v := (0 : Int32)) hx hb d_Mo_meetAll_10 (by decide) ?_
      refine lv_istore_n (lv' := [(2, .int (0 : Int32)), (0, .ref (base + l0)), (1, .int l1)]) hx hb d_Mo_meetAll_11 rfl hl (by decide) rfl (fun ls hl => ?_)
      exact t_Mo_meetAll_12 (k2 := (fun l1 h => f_Mo_meetAll_2 l0 n l1 h)) C ih FU (0 : Int32) h hM _ _ _ hS (lv_sub hl [1, 2, 0] rfl)
def f_Mo_meetAll (h : Hp) (l0 : Nat) : Option Hp :=
  ck h 9 l0 (
    f_Mo_meetAll_2 l0 FU (0 : Int32) h
  )
theorem o_Mo_meetAll {h : Hp} {l0 : Nat} {r : Hp} (hM : f_Mo_meetAll h l0 = some r) : isO h 9 l0 = true := by
  unfold f_Mo_meetAll at hM
  exact (ck_some hM).1
set_option maxHeartbeats 4000000 in
set_option maxRecDepth 100000 in
theorem t_Mo_meetAll {h : Hp} {l0 : Nat} {r : Hp} (C : Cx base D cI cZ b_Mo_meetAll 3 "MovedFoldersModel" "meetAll" none p s m args meth c) (hM : f_Mo_meetAll h l0 = some r) (H : Heap) (locs : List Loc) (ls : Array Slot) (hS : RS base D cI cZ s H locs h) (hl : lv_has ls 3 [(0, .ref (base + l0))]) : Wg l base D cI cZ 0 0 0 0 r none p e s m args below meth c H locs 0 0 (F0 m 0 ls []) := by
  have hx := C.1
  have hb := C.2.1
  unfold f_Mo_meetAll at hM
  replace hM := (ck_some hM).2
  refine lv_iconst (v := (0 : Int32)) hx hb d_Mo_meetAll_0 (by decide) ?_
  refine lv_istore_n (lv' := [(1, .int (0 : Int32)), (0, .ref (base + l0))]) hx hb d_Mo_meetAll_1 rfl hl (by decide) rfl (fun ls hl => ?_)
  exact t_Mo_meetAll_2  C  FU (0 : Int32) h hM _ _ _ hS (lv_sub hl [1, 0] rfl)
theorem c_Mo_meetAll (l : Launch) (base : Nat) (D : va_G) (cI cZ : ClassId) (h : Hp) (l0 : Nat) {r : Hp} (hM : f_Mo_meetAll h l0 = some r) : Ct l base D cI cZ y_Mo_meetAll b_Mo_meetAll 3 none 0 0 0 0 h [.ref (base + l0)] r none :=
  ct_of (by decide) (Nat.le_of_ble_eq_true rfl) (fun p e s m below meth c ls C hS hl => t_Mo_meetAll C hM _ _ _ hS hl)
theorem d_Mo_isBefore_0 : decode b_Mo_isBefore 0 = .ok (.aload_n 0, 1) := by decide +kernel
theorem d_Mo_isBefore_1 : decode b_Mo_isBefore 1 = .ok (.getfield 42, 3) := by decide +kernel
theorem d_Mo_isBefore_4 : decode b_Mo_isBefore 4 = .ok (.iload_n 1, 1) := by decide +kernel
theorem d_Mo_isBefore_5 : decode b_Mo_isBefore 5 = .ok (.iaload, 1) := by decide +kernel
theorem d_Mo_isBefore_6 : decode b_Mo_isBefore 6 = .ok (.aload_n 0, 1) := by decide +kernel
theorem d_Mo_isBefore_7 : decode b_Mo_isBefore 7 = .ok (.getfield 42, 3) := by decide +kernel
theorem d_Mo_isBefore_10 : decode b_Mo_isBefore 10 = .ok (.iload_n 2, 1) := by decide +kernel
theorem d_Mo_isBefore_11 : decode b_Mo_isBefore 11 = .ok (.iaload, 1) := by decide +kernel
theorem d_Mo_isBefore_12 : decode b_Mo_isBefore 12 = .ok (.if_icmp .eq 24, 3) := by decide +kernel
theorem d_Mo_isBefore_15 : decode b_Mo_isBefore 15 = .ok (.aload_n 0, 1) := by decide +kernel
theorem d_Mo_isBefore_16 : decode b_Mo_isBefore 16 = .ok (.getfield 42, 3) := by decide +kernel
theorem d_Mo_isBefore_19 : decode b_Mo_isBefore 19 = .ok (.iload_n 1, 1) := by decide +kernel
theorem d_Mo_isBefore_20 : decode b_Mo_isBefore 20 = .ok (.iaload, 1) := by decide +kernel
theorem d_Mo_isBefore_21 : decode b_Mo_isBefore 21 = .ok (.aload_n 0, 1) := by decide +kernel
theorem d_Mo_isBefore_22 : decode b_Mo_isBefore 22 = .ok (.getfield 42, 3) := by decide +kernel
theorem d_Mo_isBefore_25 : decode b_Mo_isBefore 25 = .ok (.iload_n 2, 1) := by decide +kernel
theorem d_Mo_isBefore_26 : decode b_Mo_isBefore 26 = .ok (.iaload, 1) := by decide +kernel
theorem d_Mo_isBefore_27 : decode b_Mo_isBefore 27 = .ok (.if_icmp .ge 7, 3) := by decide +kernel
theorem d_Mo_isBefore_30 : decode b_Mo_isBefore 30 = .ok (.iconst 1, 1) := by decide +kernel
theorem d_Mo_isBefore_31 : decode b_Mo_isBefore 31 = .ok (.goto 4, 3) := by decide +kernel
theorem d_Mo_isBefore_34 : decode b_Mo_isBefore 34 = .ok (.iconst 0, 1) := by decide +kernel
theorem d_Mo_isBefore_35 : decode b_Mo_isBefore 35 = .ok (.ireturn, 1) := by decide +kernel
theorem d_Mo_isBefore_36 : decode b_Mo_isBefore 36 = .ok (.aload_n 0, 1) := by decide +kernel
theorem d_Mo_isBefore_37 : decode b_Mo_isBefore 37 = .ok (.getfield 45, 3) := by decide +kernel
theorem d_Mo_isBefore_40 : decode b_Mo_isBefore 40 = .ok (.iload_n 1, 1) := by decide +kernel
theorem d_Mo_isBefore_41 : decode b_Mo_isBefore 41 = .ok (.iaload, 1) := by decide +kernel
theorem d_Mo_isBefore_42 : decode b_Mo_isBefore 42 = .ok (.aload_n 0, 1) := by decide +kernel
theorem d_Mo_isBefore_43 : decode b_Mo_isBefore 43 = .ok (.getfield 45, 3) := by decide +kernel
theorem d_Mo_isBefore_46 : decode b_Mo_isBefore 46 = .ok (.iload_n 2, 1) := by decide +kernel
theorem d_Mo_isBefore_47 : decode b_Mo_isBefore 47 = .ok (.iaload, 1) := by decide +kernel
theorem d_Mo_isBefore_48 : decode b_Mo_isBefore 48 = .ok (.if_icmp .eq 24, 3) := by decide +kernel
theorem d_Mo_isBefore_51 : decode b_Mo_isBefore 51 = .ok (.aload_n 0, 1) := by decide +kernel
theorem d_Mo_isBefore_52 : decode b_Mo_isBefore 52 = .ok (.getfield 45, 3) := by decide +kernel
theorem d_Mo_isBefore_55 : decode b_Mo_isBefore 55 = .ok (.iload_n 1, 1) := by decide +kernel
theorem d_Mo_isBefore_56 : decode b_Mo_isBefore 56 = .ok (.iaload, 1) := by decide +kernel
theorem d_Mo_isBefore_57 : decode b_Mo_isBefore 57 = .ok (.aload_n 0, 1) := by decide +kernel
theorem d_Mo_isBefore_58 : decode b_Mo_isBefore 58 = .ok (.getfield 45, 3) := by decide +kernel
theorem d_Mo_isBefore_61 : decode b_Mo_isBefore 61 = .ok (.iload_n 2, 1) := by decide +kernel
theorem d_Mo_isBefore_62 : decode b_Mo_isBefore 62 = .ok (.iaload, 1) := by decide +kernel
theorem d_Mo_isBefore_63 : decode b_Mo_isBefore 63 = .ok (.if_icmp .ge 7, 3) := by decide +kernel
theorem d_Mo_isBefore_66 : decode b_Mo_isBefore 66 = .ok (.iconst 1, 1) := by decide +kernel
theorem d_Mo_isBefore_67 : decode b_Mo_isBefore 67 = .ok (.goto 4, 3) := by decide +kernel
theorem d_Mo_isBefore_70 : decode b_Mo_isBefore 70 = .ok (.iconst 0, 1) := by decide +kernel
theorem d_Mo_isBefore_71 : decode b_Mo_isBefore 71 = .ok (.ireturn, 1) := by decide +kernel
theorem d_Mo_isBefore_72 : decode b_Mo_isBefore 72 = .ok (.aload_n 0, 1) := by decide +kernel
theorem d_Mo_isBefore_73 : decode b_Mo_isBefore 73 = .ok (.getfield 48, 3) := by decide +kernel
theorem d_Mo_isBefore_76 : decode b_Mo_isBefore 76 = .ok (.iload_n 1, 1) := by decide +kernel
theorem d_Mo_isBefore_77 : decode b_Mo_isBefore 77 = .ok (.iaload, 1) := by decide +kernel
theorem d_Mo_isBefore_78 : decode b_Mo_isBefore 78 = .ok (.aload_n 0, 1) := by decide +kernel
theorem d_Mo_isBefore_79 : decode b_Mo_isBefore 79 = .ok (.getfield 48, 3) := by decide +kernel
theorem d_Mo_isBefore_82 : decode b_Mo_isBefore 82 = .ok (.iload_n 2, 1) := by decide +kernel
theorem d_Mo_isBefore_83 : decode b_Mo_isBefore 83 = .ok (.iaload, 1) := by decide +kernel
theorem d_Mo_isBefore_84 : decode b_Mo_isBefore 84 = .ok (.if_icmp .eq 26, 3) := by decide +kernel
theorem d_Mo_isBefore_87 : decode b_Mo_isBefore 87 = .ok (.aload_n 0, 1) := by decide +kernel
theorem d_Mo_isBefore_88 : decode b_Mo_isBefore 88 = .ok (.getfield 48, 3) := by decide +kernel
theorem d_Mo_isBefore_91 : decode b_Mo_isBefore 91 = .ok (.iload_n 1, 1) := by decide +kernel
theorem d_Mo_isBefore_92 : decode b_Mo_isBefore 92 = .ok (.iaload, 1) := by decide +kernel
theorem d_Mo_isBefore_93 : decode b_Mo_isBefore 93 = .ok (.aload_n 0, 1) := by decide +kernel
theorem d_Mo_isBefore_94 : decode b_Mo_isBefore 94 = .ok (.getfield 48, 3) := by decide +kernel
theorem d_Mo_isBefore_97 : decode b_Mo_isBefore 97 = .ok (.iload_n 2, 1) := by decide +kernel
theorem d_Mo_isBefore_98 : decode b_Mo_isBefore 98 = .ok (.iaload, 1) := by decide +kernel
theorem d_Mo_isBefore_99 : decode b_Mo_isBefore 99 = .ok (.if_icmp .ge 7, 3) := by decide +kernel
theorem d_Mo_isBefore_102 : decode b_Mo_isBefore 102 = .ok (.iconst 1, 1) := by decide +kernel
theorem d_Mo_isBefore_103 : decode b_Mo_isBefore 103 = .ok (.goto 27, 3) := by decide +kernel
theorem d_Mo_isBefore_106 : decode b_Mo_isBefore 106 = .ok (.iconst 0, 1) := by decide +kernel
theorem d_Mo_isBefore_107 : decode b_Mo_isBefore 107 = .ok (.goto 23, 3) := by decide +kernel
theorem d_Mo_isBefore_110 : decode b_Mo_isBefore 110 = .ok (.aload_n 0, 1) := by decide +kernel
theorem d_Mo_isBefore_111 : decode b_Mo_isBefore 111 = .ok (.getfield 51, 3) := by decide +kernel
theorem d_Mo_isBefore_114 : decode b_Mo_isBefore 114 = .ok (.iload_n 1, 1) := by decide +kernel
theorem d_Mo_isBefore_115 : decode b_Mo_isBefore 115 = .ok (.iaload, 1) := by decide +kernel
theorem d_Mo_isBefore_116 : decode b_Mo_isBefore 116 = .ok (.aload_n 0, 1) := by decide +kernel
theorem d_Mo_isBefore_117 : decode b_Mo_isBefore 117 = .ok (.getfield 51, 3) := by decide +kernel
theorem d_Mo_isBefore_120 : decode b_Mo_isBefore 120 = .ok (.iload_n 2, 1) := by decide +kernel
theorem d_Mo_isBefore_121 : decode b_Mo_isBefore 121 = .ok (.iaload, 1) := by decide +kernel
theorem d_Mo_isBefore_122 : decode b_Mo_isBefore 122 = .ok (.if_icmp .ge 7, 3) := by decide +kernel
theorem d_Mo_isBefore_125 : decode b_Mo_isBefore 125 = .ok (.iconst 1, 1) := by decide +kernel
theorem d_Mo_isBefore_126 : decode b_Mo_isBefore 126 = .ok (.goto 4, 3) := by decide +kernel
theorem d_Mo_isBefore_129 : decode b_Mo_isBefore 129 = .ok (.iconst 0, 1) := by decide +kernel
theorem d_Mo_isBefore_130 : decode b_Mo_isBefore 130 = .ok (.ireturn, 1) := by decide +kernel
def f_Mo_isBefore (h : Hp) (l0 : Nat) (l1 : Int32) (l2 : Int32) : Option Int32 :=
  ck h 9 l0 (
    (gR h 9 l0 16).bind fun t1 =>
    (gA h false t1 l1).bind fun t2 =>
    (gR h 9 l0 16).bind fun t3 =>
    (gA h false t3 l2).bind fun t4 =>
    if t2 = t4 then (
      (gR h 9 l0 17).bind fun t5 =>
      (gA h false t5 l1).bind fun t6 =>
      (gR h 9 l0 17).bind fun t7 =>
      (gA h false t7 l2).bind fun t8 =>
      if t6 = t8 then (
        (gR h 9 l0 18).bind fun t9 =>
        (gA h false t9 l1).bind fun t10 =>
        (gR h 9 l0 18).bind fun t11 =>
        (gA h false t11 l2).bind fun t12 =>
        (
          if t10 = t12 then (
            (gR h 9 l0 19).bind fun t14 =>
            (gA h false t14 l1).bind fun t15 =>
            (gR h 9 l0 19).bind fun t16 =>
            (gA h false t16 l2).bind fun t17 =>
            if t17 ≤ t15 then (
              some (0 : Int32)
            ) else (
              some (1 : Int32)
            )
          ) else (
            (gR h 9 l0 18).bind fun t18 =>
            (gA h false t18 l1).bind fun t19 =>
            (gR h 9 l0 18).bind fun t20 =>
            (gA h false t20 l2).bind fun t21 =>
            if t21 ≤ t19 then (
              some (0 : Int32)
            ) else (
              some (1 : Int32)
            )
          )
        ).bind fun t13 =>
        rz t13
      ) else (
        (gR h 9 l0 17).bind fun t22 =>
        (gA h false t22 l1).bind fun t23 =>
        (gR h 9 l0 17).bind fun t24 =>
        (gA h false t24 l2).bind fun t25 =>
        rz (if t25 ≤ t23 then ((0 : Int32)) else ((1 : Int32)))
      )
    ) else (
      (gR h 9 l0 16).bind fun t26 =>
      (gA h false t26 l1).bind fun t27 =>
      (gR h 9 l0 16).bind fun t28 =>
      (gA h false t28 l2).bind fun t29 =>
      rz (if t29 ≤ t27 then ((0 : Int32)) else ((1 : Int32)))
    )
  )
theorem o_Mo_isBefore {h : Hp} {l0 : Nat} {l1 : Int32} {l2 : Int32} {r : Int32} (hM : f_Mo_isBefore h l0 l1 l2 = some r) : isO h 9 l0 = true := by
  unfold f_Mo_isBefore at hM
  exact (ck_some hM).1
set_option maxHeartbeats 4000000 in
set_option maxRecDepth 100000 in
theorem t_Mo_isBefore {h : Hp} {l0 : Nat} {l1 : Int32} {l2 : Int32} {r : Int32} (C : Cx base D cI cZ b_Mo_isBefore 3 "MovedFoldersModel" "isBefore" (some .boolean) p s m args meth c) (hM : f_Mo_isBefore h l0 l1 l2 = some r) (H : Heap) (locs : List Loc) (ls : Array Slot) (hS : RS base D cI cZ s H locs h) (hl : lv_has ls 3 [(0, .ref (base + l0)), (1, .int l1), (2, .int l2)]) : Wg l base D cI cZ 0 0 0 0 h (some (.int r)) p e s m args below meth c H locs 0 0 (F0 m 0 ls []) := by
  have hx := C.1
  have hb := C.2.1
  unfold f_Mo_isBefore at hM
  replace hM := (ck_some hM).2
  refine lv_aload_n hx hb d_Mo_isBefore_0 rfl (lv_at hl 0 rfl) ?_
  obtain ⟨t1, et1, hM⟩ := bS hM
  refine r_getR C hS fl_Mo_42 et1 d_Mo_isBefore_1 ?_
  refine lv_iload_n hx hb d_Mo_isBefore_4 rfl (lv_at hl 1 rfl) ?_
  obtain ⟨t2, et2, hM⟩ := bS hM
  refine r_iald C hS et2 d_Mo_isBefore_5 ?_
  refine lv_aload_n hx hb d_Mo_isBefore_6 rfl (lv_at hl 0 rfl) ?_
  obtain ⟨t3, et3, hM⟩ := bS hM
  refine r_getR C hS fl_Mo_42 et3 d_Mo_isBefore_7 ?_
  refine lv_iload_n hx hb d_Mo_isBefore_10 rfl (lv_at hl 2 rfl) ?_
  obtain ⟨t4, et4, hM⟩ := bS hM
  refine r_iald C hS et4 d_Mo_isBefore_11 ?_
  refine lv_icmp_eq (tgt := 36) hx hb d_Mo_isBefore_12 (by decide) (fun c12_1 => ?_) (fun c12_1 => ?_)
  · rw [if_pos c12_1] at hM
    refine lv_aload_n hx hb d_Mo_isBefore_36 rfl (lv_at hl 0 rfl) ?_
    obtain ⟨t5, et5, hM⟩ := bS hM
    refine r_getR C hS fl_Mo_45 et5 d_Mo_isBefore_37 ?_
    refine lv_iload_n hx hb d_Mo_isBefore_40 rfl (lv_at hl 1 rfl) ?_
    obtain ⟨t6, et6, hM⟩ := bS hM
    refine r_iald C hS et6 d_Mo_isBefore_41 ?_
    refine lv_aload_n hx hb d_Mo_isBefore_42 rfl (lv_at hl 0 rfl) ?_
    obtain ⟨t7, et7, hM⟩ := bS hM
    refine r_getR C hS fl_Mo_45 et7 d_Mo_isBefore_43 ?_
    refine lv_iload_n hx hb d_Mo_isBefore_46 rfl (lv_at hl 2 rfl) ?_
    obtain ⟨t8, et8, hM⟩ := bS hM
    refine r_iald C hS et8 d_Mo_isBefore_47 ?_
    refine lv_icmp_eq (tgt := 72) hx hb d_Mo_isBefore_48 (by decide) (fun c48_2 => ?_) (fun c48_2 => ?_)
    · rw [if_pos c48_2] at hM
      refine lv_aload_n hx hb d_Mo_isBefore_72 rfl (lv_at hl 0 rfl) ?_
      obtain ⟨t9, et9, hM⟩ := bS hM
      refine r_getR C hS fl_Mo_48 et9 d_Mo_isBefore_73 ?_
      refine lv_iload_n hx hb d_Mo_isBefore_76 rfl (lv_at hl 1 rfl) ?_
      obtain ⟨t10, et10, hM⟩ := bS hM
      refine r_iald C hS et10 d_Mo_isBefore_77 ?_
      refine lv_aload_n hx hb d_Mo_isBefore_78 rfl (lv_at hl 0 rfl) ?_
      obtain ⟨t11, et11, hM⟩ := bS hM
      refine r_getR C hS fl_Mo_48 et11 d_Mo_isBefore_79 ?_
      refine lv_iload_n hx hb d_Mo_isBefore_82 rfl (lv_at hl 2 rfl) ?_
      obtain ⟨t12, et12, hM⟩ := bS hM
      refine r_iald C hS et12 d_Mo_isBefore_83 ?_
      obtain ⟨t13, et13, hM⟩ := bS hM
      have kJ130_3 : ∀ (H : Heap) (locs : List Loc) (ls : Array Slot), RS base D cI cZ s H locs h → lv_has ls 3 [] → Wg l base D cI cZ 0 0 0 0 h (some (.int r)) p e s m args below meth c H locs 0 0 (F0 m 130 ls [.int t13]) := by
        intro H locs ls hS hl
        exact r_zret C hS hM d_Mo_isBefore_130
      refine lv_icmp_eq (tgt := 110) hx hb d_Mo_isBefore_84 (by decide) (fun c84_4 => ?_) (fun c84_4 => ?_)
      · rw [if_pos c84_4] at et13
        refine lv_aload_n hx hb d_Mo_isBefore_110 rfl (lv_at hl 0 rfl) ?_
        obtain ⟨t14, et14, et13⟩ := bS et13
        refine r_getR C hS fl_Mo_51 et14 d_Mo_isBefore_111 ?_
        refine lv_iload_n hx hb d_Mo_isBefore_114 rfl (lv_at hl 1 rfl) ?_
        obtain ⟨t15, et15, et13⟩ := bS et13
        refine r_iald C hS et15 d_Mo_isBefore_115 ?_
        refine lv_aload_n hx hb d_Mo_isBefore_116 rfl (lv_at hl 0 rfl) ?_
        obtain ⟨t16, et16, et13⟩ := bS et13
        refine r_getR C hS fl_Mo_51 et16 d_Mo_isBefore_117 ?_
        refine lv_iload_n hx hb d_Mo_isBefore_120 rfl (lv_at hl 2 rfl) ?_
        obtain ⟨t17, et17, et13⟩ := bS et13
        refine r_iald C hS et17 d_Mo_isBefore_121 ?_
        refine lv_icmp_ge (tgt := 129) hx hb d_Mo_isBefore_122 (by decide) (fun c122_5 => ?_) (fun c122_5 => ?_)
        · rw [if_pos c122_5] at et13
          refine lv_iconst (v := (0 : Int32)) hx hb d_Mo_isBefore_129 (by decide) ?_
          obtain rfl := Option.some.inj et13
          exact kJ130_3 _ _ _ hS (lv_sub hl [] rfl)
        · rw [if_neg c122_5] at et13
          refine lv_iconst (v := (1 : Int32)) hx hb d_Mo_isBefore_125 (by decide) ?_
          refine lv_goto (tgt := 130) hx hb d_Mo_isBefore_126 (by decide) ?_
          obtain rfl := Option.some.inj et13
          exact kJ130_3 _ _ _ hS (lv_sub hl [] rfl)
      · rw [if_neg c84_4] at et13
        refine lv_aload_n hx hb d_Mo_isBefore_87 rfl (lv_at hl 0 rfl) ?_
        obtain ⟨t18, et18, et13⟩ := bS et13
        refine r_getR C hS fl_Mo_48 et18 d_Mo_isBefore_88 ?_
        refine lv_iload_n hx hb d_Mo_isBefore_91 rfl (lv_at hl 1 rfl) ?_
        obtain ⟨t19, et19, et13⟩ := bS et13
        refine r_iald C hS et19 d_Mo_isBefore_92 ?_
        refine lv_aload_n hx hb d_Mo_isBefore_93 rfl (lv_at hl 0 rfl) ?_
        obtain ⟨t20, et20, et13⟩ := bS et13
        refine r_getR C hS fl_Mo_48 et20 d_Mo_isBefore_94 ?_
        refine lv_iload_n hx hb d_Mo_isBefore_97 rfl (lv_at hl 2 rfl) ?_
        obtain ⟨t21, et21, et13⟩ := bS et13
        refine r_iald C hS et21 d_Mo_isBefore_98 ?_
        refine lv_icmp_ge (tgt := 106) hx hb d_Mo_isBefore_99 (by decide) (fun c99_6 => ?_) (fun c99_6 => ?_)
        · rw [if_pos c99_6] at et13
          refine lv_iconst (v := (0 : Int32)) hx hb d_Mo_isBefore_106 (by decide) ?_
          refine lv_goto (tgt := 130) hx hb d_Mo_isBefore_107 (by decide) ?_
          obtain rfl := Option.some.inj et13
          exact kJ130_3 _ _ _ hS (lv_sub hl [] rfl)
        · rw [if_neg c99_6] at et13
          refine lv_iconst (v := (1 : Int32)) hx hb d_Mo_isBefore_102 (by decide) ?_
          refine lv_goto (tgt := 130) hx hb d_Mo_isBefore_103 (by decide) ?_
          obtain rfl := Option.some.inj et13
          exact kJ130_3 _ _ _ hS (lv_sub hl [] rfl)
    · rw [if_neg c48_2] at hM
      refine lv_aload_n hx hb d_Mo_isBefore_51 rfl (lv_at hl 0 rfl) ?_
      obtain ⟨t22, et22, hM⟩ := bS hM
      refine r_getR C hS fl_Mo_45 et22 d_Mo_isBefore_52 ?_
      refine lv_iload_n hx hb d_Mo_isBefore_55 rfl (lv_at hl 1 rfl) ?_
      obtain ⟨t23, et23, hM⟩ := bS hM
      refine r_iald C hS et23 d_Mo_isBefore_56 ?_
      refine lv_aload_n hx hb d_Mo_isBefore_57 rfl (lv_at hl 0 rfl) ?_
      obtain ⟨t24, et24, hM⟩ := bS hM
      refine r_getR C hS fl_Mo_45 et24 d_Mo_isBefore_58 ?_
      refine lv_iload_n hx hb d_Mo_isBefore_61 rfl (lv_at hl 2 rfl) ?_
      obtain ⟨t25, et25, hM⟩ := bS hM
      refine r_iald C hS et25 d_Mo_isBefore_62 ?_
      have kJ71_7 : ∀ (H : Heap) (locs : List Loc) (ls : Array Slot), RS base D cI cZ s H locs h → lv_has ls 3 [] → Wg l base D cI cZ 0 0 0 0 h (some (.int r)) p e s m args below meth c H locs 0 0 (F0 m 71 ls [.int (if t25 ≤ t23 then ((0 : Int32)) else ((1 : Int32)))]) := by
        intro H locs ls hS hl
        exact r_zret C hS hM d_Mo_isBefore_71
      refine lv_icmp_ge (tgt := 70) hx hb d_Mo_isBefore_63 (by decide) (fun c63_8 => ?_) (fun c63_8 => ?_)
      · rw [if_pos c63_8] at kJ71_7
        refine lv_iconst (v := (0 : Int32)) hx hb d_Mo_isBefore_70 (by decide) ?_
        exact kJ71_7 _ _ _ hS (lv_sub hl [] rfl)
      · rw [if_neg c63_8] at kJ71_7
        refine lv_iconst (v := (1 : Int32)) hx hb d_Mo_isBefore_66 (by decide) ?_
        refine lv_goto (tgt := 71) hx hb d_Mo_isBefore_67 (by decide) ?_
        exact kJ71_7 _ _ _ hS (lv_sub hl [] rfl)
  · rw [if_neg c12_1] at hM
    refine lv_aload_n hx hb d_Mo_isBefore_15 rfl (lv_at hl 0 rfl) ?_
    obtain ⟨t26, et26, hM⟩ := bS hM
    refine r_getR C hS fl_Mo_42 et26 d_Mo_isBefore_16 ?_
    refine lv_iload_n hx hb d_Mo_isBefore_19 rfl (lv_at hl 1 rfl) ?_
    obtain ⟨t27, et27, hM⟩ := bS hM
    refine r_iald C hS et27 d_Mo_isBefore_20 ?_
    refine lv_aload_n hx hb d_Mo_isBefore_21 rfl (lv_at hl 0 rfl) ?_
    obtain ⟨t28, et28, hM⟩ := bS hM
    refine r_getR C hS fl_Mo_42 et28 d_Mo_isBefore_22 ?_
    refine lv_iload_n hx hb d_Mo_isBefore_25 rfl (lv_at hl 2 rfl) ?_
    obtain ⟨t29, et29, hM⟩ := bS hM
    refine r_iald C hS et29 d_Mo_isBefore_26 ?_
    have kJ35_9 : ∀ (H : Heap) (locs : List Loc) (ls : Array Slot), RS base D cI cZ s H locs h → lv_has ls 3 [] → Wg l base D cI cZ 0 0 0 0 h (some (.int r)) p e s m args below meth c H locs 0 0 (F0 m 35 ls [.int (if t29 ≤ t27 then ((0 : Int32)) else ((1 : Int32)))]) := by
      intro H locs ls hS hl
      exact r_zret C hS hM d_Mo_isBefore_35
    refine lv_icmp_ge (tgt := 34) hx hb d_Mo_isBefore_27 (by decide) (fun c27_10 => ?_) (fun c27_10 => ?_)
    · rw [if_pos c27_10] at kJ35_9
      refine lv_iconst (v := (0 : Int32)) hx hb d_Mo_isBefore_34 (by decide) ?_
      exact kJ35_9 _ _ _ hS (lv_sub hl [] rfl)
    · rw [if_neg c27_10] at kJ35_9
      refine lv_iconst (v := (1 : Int32)) hx hb d_Mo_isBefore_30 (by decide) ?_
      refine lv_goto (tgt := 35) hx hb d_Mo_isBefore_31 (by decide) ?_
      exact kJ35_9 _ _ _ hS (lv_sub hl [] rfl)
theorem c_Mo_isBefore (l : Launch) (base : Nat) (D : va_G) (cI cZ : ClassId) (h : Hp) (l0 : Nat) (l1 : Int32) (l2 : Int32) {r : Int32} (hM : f_Mo_isBefore h l0 l1 l2 = some r) : Ct l base D cI cZ y_Mo_isBefore b_Mo_isBefore 3 (some .boolean) 0 0 0 0 h [.ref (base + l0), .int l1, .int l2] h (some (.int r)) :=
  ct_of (by decide) (Nat.le_of_ble_eq_true rfl) (fun p e s m below meth c ls C hS hl => t_Mo_isBefore C hM _ _ _ hS hl)
end MM9
