section MM3
variable {l : Launch} {base : Nat} {D : va_G} {cI cZ : ClassId} {p : Program} {e : Env} {s : State} {m : MethodId} {args : Array Value} {below : List Frame} {meth : Method} {c : Code}
theorem d_Moves_mostVoted_0 : decode b_Moves_mostVoted 0 = .ok (.iconst 0, 1) := by decide +kernel
theorem d_Moves_mostVoted_1 : decode b_Moves_mostVoted 1 = .ok (.istore 4, 2) := by decide +kernel
theorem d_Moves_mostVoted_3 : decode b_Moves_mostVoted 3 = .ok (.bipush (-6), 2) := by decide +kernel
theorem d_Moves_mostVoted_5 : decode b_Moves_mostVoted 5 = .ok (.istore 5, 2) := by decide +kernel
theorem d_Moves_mostVoted_7 : decode b_Moves_mostVoted 7 = .ok (.iconst 0, 1) := by decide +kernel
theorem d_Moves_mostVoted_8 : decode b_Moves_mostVoted 8 = .ok (.istore 6, 2) := by decide +kernel
theorem d_Moves_mostVoted_10 : decode b_Moves_mostVoted 10 = .ok (.iconst 0, 1) := by decide +kernel
theorem d_Moves_mostVoted_11 : decode b_Moves_mostVoted 11 = .ok (.istore 7, 2) := by decide +kernel
theorem d_Moves_mostVoted_13 : decode b_Moves_mostVoted 13 = .ok (.iload 7, 2) := by decide +kernel
theorem d_Moves_mostVoted_15 : decode b_Moves_mostVoted 15 = .ok (.aload_n 0, 1) := by decide +kernel
theorem d_Moves_mostVoted_16 : decode b_Moves_mostVoted 16 = .ok (.invokevirtual 46, 3) := by decide +kernel
theorem d_Moves_mostVoted_19 : decode b_Moves_mostVoted 19 = .ok (.if_icmp .ge 94, 3) := by decide +kernel
theorem d_Moves_mostVoted_22 : decode b_Moves_mostVoted 22 = .ok (.aload_n 2, 1) := by decide +kernel
theorem d_Moves_mostVoted_23 : decode b_Moves_mostVoted 23 = .ok (.iload 7, 2) := by decide +kernel
theorem d_Moves_mostVoted_25 : decode b_Moves_mostVoted 25 = .ok (.invokevirtual 67, 3) := by decide +kernel
theorem d_Moves_mostVoted_28 : decode b_Moves_mostVoted 28 = .ok (.istore 8, 2) := by decide +kernel
theorem d_Moves_mostVoted_30 : decode b_Moves_mostVoted 30 = .ok (.aload_n 0, 1) := by decide +kernel
theorem d_Moves_mostVoted_31 : decode b_Moves_mostVoted 31 = .ok (.iload 7, 2) := by decide +kernel
theorem d_Moves_mostVoted_33 : decode b_Moves_mostVoted 33 = .ok (.invokevirtual 52, 3) := by decide +kernel
theorem d_Moves_mostVoted_36 : decode b_Moves_mostVoted 36 = .ok (.iload_n 3, 1) := by decide +kernel
theorem d_Moves_mostVoted_37 : decode b_Moves_mostVoted 37 = .ok (.if_icmp .ne 70, 3) := by decide +kernel
theorem d_Moves_mostVoted_40 : decode b_Moves_mostVoted 40 = .ok (.iload 8, 2) := by decide +kernel
theorem d_Moves_mostVoted_42 : decode b_Moves_mostVoted 42 = .ok (.bipush (-6), 2) := by decide +kernel
theorem d_Moves_mostVoted_44 : decode b_Moves_mostVoted 44 = .ok (.if_icmp .ne 6, 3) := by decide +kernel
theorem d_Moves_mostVoted_47 : decode b_Moves_mostVoted 47 = .ok (.goto 60, 3) := by decide +kernel
theorem d_Moves_mostVoted_50 : decode b_Moves_mostVoted 50 = .ok (.aload_n 1, 1) := by decide +kernel
theorem d_Moves_mostVoted_51 : decode b_Moves_mostVoted 51 = .ok (.iload 8, 2) := by decide +kernel
theorem d_Moves_mostVoted_53 : decode b_Moves_mostVoted 53 = .ok (.invokevirtual 52, 3) := by decide +kernel
theorem d_Moves_mostVoted_56 : decode b_Moves_mostVoted 56 = .ok (.istore 9, 2) := by decide +kernel
theorem d_Moves_mostVoted_58 : decode b_Moves_mostVoted 58 = .ok (.aload_n 2, 1) := by decide +kernel
theorem d_Moves_mostVoted_59 : decode b_Moves_mostVoted 59 = .ok (.aload_n 0, 1) := by decide +kernel
theorem d_Moves_mostVoted_60 : decode b_Moves_mostVoted 60 = .ok (.aload_n 1, 1) := by decide +kernel
theorem d_Moves_mostVoted_61 : decode b_Moves_mostVoted 61 = .ok (.iload_n 3, 1) := by decide +kernel
theorem d_Moves_mostVoted_62 : decode b_Moves_mostVoted 62 = .ok (.iload 9, 2) := by decide +kernel
theorem d_Moves_mostVoted_64 : decode b_Moves_mostVoted 64 = .ok (.invokevirtual 72, 3) := by decide +kernel
theorem d_Moves_mostVoted_67 : decode b_Moves_mostVoted 67 = .ok (.istore 10, 2) := by decide +kernel
theorem d_Moves_mostVoted_69 : decode b_Moves_mostVoted 69 = .ok (.iload 10, 2) := by decide +kernel
theorem d_Moves_mostVoted_71 : decode b_Moves_mostVoted 71 = .ok (.iload 4, 2) := by decide +kernel
theorem d_Moves_mostVoted_73 : decode b_Moves_mostVoted 73 = .ok (.if_icmp .le 17, 3) := by decide +kernel
theorem d_Moves_mostVoted_76 : decode b_Moves_mostVoted 76 = .ok (.iload 10, 2) := by decide +kernel
theorem d_Moves_mostVoted_78 : decode b_Moves_mostVoted 78 = .ok (.istore 4, 2) := by decide +kernel
theorem d_Moves_mostVoted_80 : decode b_Moves_mostVoted 80 = .ok (.iload 9, 2) := by decide +kernel
theorem d_Moves_mostVoted_82 : decode b_Moves_mostVoted 82 = .ok (.istore 5, 2) := by decide +kernel
theorem d_Moves_mostVoted_84 : decode b_Moves_mostVoted 84 = .ok (.iconst 0, 1) := by decide +kernel
theorem d_Moves_mostVoted_85 : decode b_Moves_mostVoted 85 = .ok (.istore 6, 2) := by decide +kernel
theorem d_Moves_mostVoted_87 : decode b_Moves_mostVoted 87 = .ok (.goto 20, 3) := by decide +kernel
theorem d_Moves_mostVoted_90 : decode b_Moves_mostVoted 90 = .ok (.iload 10, 2) := by decide +kernel
theorem d_Moves_mostVoted_92 : decode b_Moves_mostVoted 92 = .ok (.iload 4, 2) := by decide +kernel
theorem d_Moves_mostVoted_94 : decode b_Moves_mostVoted 94 = .ok (.if_icmp .ne 13, 3) := by decide +kernel
theorem d_Moves_mostVoted_97 : decode b_Moves_mostVoted 97 = .ok (.iload 9, 2) := by decide +kernel
theorem d_Moves_mostVoted_99 : decode b_Moves_mostVoted 99 = .ok (.iload 5, 2) := by decide +kernel
theorem d_Moves_mostVoted_101 : decode b_Moves_mostVoted 101 = .ok (.if_icmp .eq 6, 3) := by decide +kernel
theorem d_Moves_mostVoted_104 : decode b_Moves_mostVoted 104 = .ok (.iconst 1, 1) := by decide +kernel
theorem d_Moves_mostVoted_105 : decode b_Moves_mostVoted 105 = .ok (.istore 6, 2) := by decide +kernel
theorem d_Moves_mostVoted_107 : decode b_Moves_mostVoted 107 = .ok (.iinc 7 1, 3) := by decide +kernel
theorem d_Moves_mostVoted_110 : decode b_Moves_mostVoted 110 = .ok (.goto (-97), 3) := by decide +kernel
theorem d_Moves_mostVoted_113 : decode b_Moves_mostVoted 113 = .ok (.iload 6, 2) := by decide +kernel
theorem d_Moves_mostVoted_115 : decode b_Moves_mostVoted 115 = .ok (.ifCond .eq 8, 3) := by decide +kernel
theorem d_Moves_mostVoted_118 : decode b_Moves_mostVoted 118 = .ok (.bipush (-6), 2) := by decide +kernel
theorem d_Moves_mostVoted_120 : decode b_Moves_mostVoted 120 = .ok (.goto 5, 3) := by decide +kernel
theorem d_Moves_mostVoted_123 : decode b_Moves_mostVoted 123 = .ok (.iload 5, 2) := by decide +kernel
theorem d_Moves_mostVoted_125 : decode b_Moves_mostVoted 125 = .ok (.ireturn, 1) := by decide +kernel
def f_Moves_mostVoted_13 (h : Hp) (l0 : Nat) (l1 : Nat) (l2 : Nat) (l3 : Int32) : Nat → Int32 → Int32 → Int32 → Int32 → Option Int32
  | 0, _, _, _, _ => none
  | n + 1, l4, l5, l6, l7 =>
    (f_Tree_size h l0).bind fun t1 =>
    if t1 ≤ l7 then (
      some (if l6 = (0 : Int32) then (l5) else ((-6 : Int32)))
    ) else (
      (f_Pairs_mateOf h l2 l7).bind fun t2 =>
      (f_Tree_folderAt h l0 l7).bind fun t3 =>
      (
        if t3 = l3 then (
          if t2 = (-6 : Int32) then (
            some (l4, l5, l6)
          ) else (
            (f_Tree_folderAt h l1 t2).bind fun t5 =>
            (f_Pairs_countWent h l2 l0 l1 l3 t5).bind fun t6 =>
            if t6 ≤ l4 then (
              if t6 = l4 then (
                if t5 = l5 then (
                  some (l4, l5, l6)
                ) else (
                  some (l4, l5, (1 : Int32))
                )
              ) else (
                some (l4, l5, l6)
              )
            ) else (
              some (t6, t5, (0 : Int32))
            )
          )
        ) else (
          some (l4, l5, l6)
        )
      ).bind fun q4 =>
      f_Moves_mostVoted_13 h l0 l1 l2 l3 n q4.1 q4.2.1 q4.2.2 (l7 + (1 : Int32))
    )
set_option maxHeartbeats 4000000 in
set_option maxRecDepth 100000 in
theorem t_Moves_mostVoted_13 {h : Hp} {l0 : Nat} {l1 : Nat} {l2 : Nat} {l3 : Int32} {r : Int32} (C : Cx base D cI cZ b_Moves_mostVoted 11 "MovedFolders$Moves" "mostVoted" (some .int) p s m args meth c)  : ∀ (n : Nat) (l4 : Int32) (l5 : Int32) (l6 : Int32) (l7 : Int32), f_Moves_mostVoted_13 h l0 l1 l2 l3 n l4 l5 l6 l7 = some r → ∀ (H : Heap) (locs : List Loc) (ls : Array Slot), RS base D cI cZ s H locs h → lv_has ls 11 [(0, .ref (base + l0)), (1, .ref (base + l1)), (2, .ref (base + l2)), (3, .int l3), (4, .int l4), (5, .int l5), (6, .int l6), (7, .int l7)] → Wg l base D cI cZ 3 69 0 0 h (some (.int r)) p e s m args below meth c H locs 0 0 (F0 m 13 ls []) := by
  have hx := C.1
  have hb := C.2.1
  intro n
  induction n with
  | zero =>
    intro l4 l5 l6 l7 hM
    rw [f_Moves_mostVoted_13] at hM
    cases hM
  | succ n ih =>
    intro l4 l5 l6 l7 hM H locs ls hS hl
    rw [f_Moves_mostVoted_13] at hM
    refine lv_iload hx hb d_Moves_mostVoted_13 (lv_at hl 7 rfl) ?_
    refine lv_aload_n hx hb d_Moves_mostVoted_15 rfl (lv_at hl 0 rfl) ?_
    obtain ⟨t1, et1, hM⟩ := bS hM
    refine r_callVi (x := t1) C hS cv_Moves_46 (c_Tree_size l base D cI cZ h l0 et1) (o_Tree_size et1) (rest := [.int l7]) rfl hl.1 rfl (Nat.le_of_ble_eq_true rfl) ⟨(Nat.le_of_ble_eq_true rfl), (Nat.le_of_ble_eq_true rfl)⟩ ⟨(Nat.le_of_ble_eq_true rfl), (Nat.le_of_ble_eq_true rfl)⟩ d_Moves_mostVoted_16 (fun H locs hS => ?_)
    refine lv_icmp_ge (tgt := 113) hx hb d_Moves_mostVoted_19 (by decide) (fun c19_1 => ?_) (fun c19_1 => ?_)
    · rw [if_pos c19_1] at hM
      refine lv_iload hx hb d_Moves_mostVoted_113 (lv_at hl 6 rfl) ?_
      have kJ125_2 : ∀ (H : Heap) (locs : List Loc) (ls : Array Slot), RS base D cI cZ s H locs h → lv_has ls 11 [] → Wg l base D cI cZ 3 69 0 0 h (some (.int r)) p e s m args below meth c H locs 0 0 (F0 m 125 ls [.int (if l6 = (0 : Int32) then (l5) else ((-6 : Int32)))]) := by
        intro H locs ls hS hl
        obtain rfl := Option.some.inj hM
        exact r_iret C hS d_Moves_mostVoted_125
      refine lv_if_eq (tgt := 123) hx hb d_Moves_mostVoted_115 (by decide) (fun c115_3 => ?_) (fun c115_3 => ?_)
      · rw [if_pos c115_3] at kJ125_2
        refine lv_iload hx hb d_Moves_mostVoted_123 (lv_at hl 5 rfl) ?_
        exact kJ125_2 _ _ _ hS (lv_sub hl [] rfl)
      · rw [if_neg c115_3] at kJ125_2
        refine lv_bipush (v := (-6 : Int32)) hx hb d_Moves_mostVoted_118 (by decide) ?_
        refine lv_goto (tgt := 125) hx hb d_Moves_mostVoted_120 (by decide) ?_
        exact kJ125_2 _ _ _ hS (lv_sub hl [] rfl)
    · rw [if_neg c19_1] at hM
      refine lv_aload_n hx hb d_Moves_mostVoted_22 rfl (lv_at hl 2 rfl) ?_
      refine lv_iload hx hb d_Moves_mostVoted_23 (lv_at hl 7 rfl) ?_
      obtain ⟨t2, et2, hM⟩ := bS hM
      refine r_callVi (x := t2) C hS cv_Moves_67 (c_Pairs_mateOf l base D cI cZ h l2 l7 et2) (o_Pairs_mateOf et2) (rest := []) rfl hl.1 rfl (Nat.le_of_ble_eq_true rfl) ⟨(Nat.le_of_ble_eq_true rfl), (Nat.le_of_ble_eq_true rfl)⟩ ⟨(Nat.le_of_ble_eq_true rfl), (Nat.le_of_ble_eq_true rfl)⟩ d_Moves_mostVoted_25 (fun H locs hS => ?_)
      refine lv_istore (lv' := [(8, .int t2), (0, .ref (base + l0)), (1, .ref (base + l1)), (2, .ref (base + l2)), (3, .int l3), (4, .int l4), (5, .int l5), (6, .int l6), (7, .int l7)]) hx hb d_Moves_mostVoted_28 hl (by decide) rfl (fun ls hl => ?_)
      refine lv_aload_n hx hb d_Moves_mostVoted_30 rfl (lv_at hl 1 rfl) ?_
      refine lv_iload hx hb d_Moves_mostVoted_31 (lv_at hl 8 rfl) ?_
      obtain ⟨t3, et3, hM⟩ := bS hM
      refine r_callVi (x := t3) C hS cv_Moves_52 (c_Tree_folderAt l base D cI cZ h l0 l7 et3) (o_Tree_folderAt et3) (rest := []) rfl hl.1 rfl (Nat.le_of_ble_eq_true rfl) ⟨(Nat.le_of_ble_eq_true rfl), (Nat.le_of_ble_eq_true rfl)⟩ ⟨(Nat.le_of_ble_eq_true rfl), (Nat.le_of_ble_eq_true rfl)⟩ d_Moves_mostVoted_33 (fun H locs hS => ?_)
      refine lv_iload_n hx hb d_Moves_mostVoted_36 rfl (lv_at hl 4 rfl) ?_
      obtain ⟨q4, eq4, hM⟩ := bS hM
      have kJ107_4 : ∀ (H : Heap) (locs : List Loc) (ls : Array Slot), RS base D cI cZ s H locs h → lv_has ls 11 [(0, .ref (base + l0)), (1, .ref (base + l1)), (2, .ref (base + l2)), (3, .int l3), (4, .int q4.1), (5, .int q4.2.1), (6, .int q4.2.2), (7, .int l7)] → Wg l base D cI cZ 3 69 0 0 h (some (.int r)) p e s m args below meth c H locs 0 0 (F0 m 107 ls []) := by
        intro H locs ls hS hl
        refine lv_iinc (v := (l7 + (1 : Int32))) (lv' := [(7, .int (l7 + (1 : Int32))), (0, .ref (base + l0)), (1, .ref (base + l1)), (2, .ref (base + l2)), (3, .int l3), (4, .int q4.1), (5, .int q4.2.1), (6, .int q4.2.2)]) hx hb d_Moves_mostVoted_107 hl (k := 7) rfl (by rw [oi_1]) (by decide) rfl (fun ls hl => ?_)
        refine lv_goto (tgt := 13) hx hb d_Moves_mostVoted_110 (by decide) ?_
        exact ih q4.1 q4.2.1 q4.2.2 (l7 + (1 : Int32)) hM _ _ _ hS (lv_sub hl [1, 2, 3, 4, 5, 6, 7, 0] rfl)
      refine lv_icmp_ne (tgt := 107) hx hb d_Moves_mostVoted_37 (by decide) (fun c37_5 => ?_) (fun c37_5 => ?_)
      · rw [if_neg c37_5] at eq4
        obtain rfl := Option.some.inj eq4
        exact kJ107_4 _ _ _ hS (lv_sub hl [1, 2, 3, 4, 5, 6, 7, 8] rfl)
      · rw [if_pos c37_5] at eq4
        refine lv_iload hx hb d_Moves_mostVoted_40 (lv_at hl 0 rfl) ?_
        refine lv_bipush (v := (-6 : Int32)) hx hb d_Moves_mostVoted_42 (by decide) ?_
        refine lv_icmp_ne (tgt := 50) hx hb d_Moves_mostVoted_44 (by decide) (fun c44_6 => ?_) (fun c44_6 => ?_)
        · rw [if_neg c44_6] at eq4
          refine lv_aload_n hx hb d_Moves_mostVoted_50 rfl (lv_at hl 2 rfl) ?_
          refine lv_iload hx hb d_Moves_mostVoted_51 (lv_at hl 0 rfl) ?_
          obtain ⟨t5, et5, eq4⟩ := bS eq4
          refine r_callVi (x := t5) C hS cv_Moves_52 (c_Tree_folderAt l base D cI cZ h l1 t2 et5) (o_Tree_folderAt et5) (rest := []) rfl hl.1 rfl (Nat.le_of_ble_eq_true rfl) ⟨(Nat.le_of_ble_eq_true rfl), (Nat.le_of_ble_eq_true rfl)⟩ ⟨(Nat.le_of_ble_eq_true rfl), (Nat.le_of_ble_eq_true rfl)⟩ d_Moves_mostVoted_53 (fun H locs hS => ?_)
          refine lv_istore (lv' := [(9, .int t5), (8, .int t2), (0, .ref (base + l0)), (1, .ref (base + l1)), (2, .ref (base + l2)), (3, .int l3), (4, .int l4), (5, .int l5), (6, .int l6), (7, .int l7)]) hx hb d_Moves_mostVoted_56 hl (by decide) rfl (fun ls hl => ?_)
          refine lv_aload_n hx hb d_Moves_mostVoted_58 rfl (lv_at hl 4 rfl) ?_
          refine lv_aload_n hx hb d_Moves_mostVoted_59 rfl (lv_at hl 2 rfl) ?_
          refine lv_aload_n hx hb d_Moves_mostVoted_60 rfl (lv_at hl 3 rfl) ?_
          refine lv_iload_n hx hb d_Moves_mostVoted_61 rfl (lv_at hl 5 rfl) ?_
          refine lv_iload hx hb d_Moves_mostVoted_62 (lv_at hl 0 rfl) ?_
          obtain ⟨t6, et6, eq4⟩ := bS eq4
          refine r_callVi (x := t6) C hS cv_Moves_72 (c_Pairs_countWent l base D cI cZ h l2 l0 l1 l3 t5 et6) (o_Pairs_countWent et6) (rest := []) rfl hl.1 rfl (Nat.le_of_ble_eq_true rfl) ⟨(Nat.le_of_ble_eq_true rfl), (Nat.le_of_ble_eq_true rfl)⟩ ⟨(Nat.le_of_ble_eq_true rfl), (Nat.le_of_ble_eq_true rfl)⟩ d_Moves_mostVoted_64 (fun H locs hS => ?_)
          refine lv_istore (lv' := [(10, .int t6), (9, .int t5), (8, .int t2), (0, .ref (base + l0)), (1, .ref (base + l1)), (2, .ref (base + l2)), (3, .int l3), (4, .int l4), (5, .int l5), (6, .int l6), (7, .int l7)]) hx hb d_Moves_mostVoted_67 hl (by decide) rfl (fun ls hl => ?_)
          refine lv_iload hx hb d_Moves_mostVoted_69 (lv_at hl 0 rfl) ?_
          refine lv_iload hx hb d_Moves_mostVoted_71 (lv_at hl 7 rfl) ?_
          refine lv_icmp_le (tgt := 90) hx hb d_Moves_mostVoted_73 (by decide) (fun c73_7 => ?_) (fun c73_7 => ?_)
          · rw [if_pos c73_7] at eq4
            refine lv_iload hx hb d_Moves_mostVoted_90 (lv_at hl 0 rfl) ?_
            refine lv_iload hx hb d_Moves_mostVoted_92 (lv_at hl 7 rfl) ?_
            refine lv_icmp_ne (tgt := 107) hx hb d_Moves_mostVoted_94 (by decide) (fun c94_8 => ?_) (fun c94_8 => ?_)
            · rw [if_neg c94_8] at eq4
              obtain rfl := Option.some.inj eq4
              exact kJ107_4 _ _ _ hS (lv_sub hl [3, 4, 5, 6, 7, 8, 9, 10] rfl)
            · rw [if_pos c94_8] at eq4
              refine lv_iload hx hb d_Moves_mostVoted_97 (lv_at hl 1 rfl) ?_
              refine lv_iload hx hb d_Moves_mostVoted_99 (lv_at hl 8 rfl) ?_
              refine lv_icmp_eq (tgt := 107) hx hb d_Moves_mostVoted_101 (by decide) (fun c101_9 => ?_) (fun c101_9 => ?_)
              · rw [if_pos c101_9] at eq4
                obtain rfl := Option.some.inj eq4
                exact kJ107_4 _ _ _ hS (lv_sub hl [3, 4, 5, 6, 7, 8, 9, 10] rfl)
              · rw [if_neg c101_9] at eq4
                refine lv_iconst (v := (1 : Int32)) hx hb d_Moves_mostVoted_104 (by decide) ?_
                refine lv_istore (lv' := [(6, .int (1 : Int32)), (10, .int t6), (9, .int t5), (8, .int t2), (0, .ref (base + l0)), (1, .ref (base + l1)), (2, .ref (base + l2)), (3, .int l3), (4, .int l4), (5, .int l5), (7, .int l7)]) hx hb d_Moves_mostVoted_105 hl (by decide) rfl (fun ls hl => ?_)
                obtain rfl := Option.some.inj eq4
                exact kJ107_4 _ _ _ hS (lv_sub hl [4, 5, 6, 7, 8, 9, 0, 10] rfl)
          · rw [if_neg c73_7] at eq4
            refine lv_iload hx hb d_Moves_mostVoted_76 (lv_at hl 0 rfl) ?_
            refine lv_istore (lv' := [(4, .int t6), (10, .int t6), (9, .int t5), (8, .int t2), (0, .ref (base + l0)), (1, .ref (base + l1)), (2, .ref (base + l2)), (3, .int l3), (5, .int l5), (6, .int l6), (7, .int l7)]) hx hb d_Moves_mostVoted_78 hl (by decide) rfl (fun ls hl => ?_)
            refine lv_iload hx hb d_Moves_mostVoted_80 (lv_at hl 2 rfl) ?_
            refine lv_istore (lv' := [(5, .int t5), (4, .int t6), (10, .int t6), (9, .int t5), (8, .int t2), (0, .ref (base + l0)), (1, .ref (base + l1)), (2, .ref (base + l2)), (3, .int l3), (6, .int l6), (7, .int l7)]) hx hb d_Moves_mostVoted_82 hl (by decide) rfl (fun ls hl => ?_)
            refine lv_iconst (v := (0 : Int32)) hx hb d_Moves_mostVoted_84 (by decide) ?_
            refine lv_istore (lv' := [(6, .int (0 : Int32)), (5, .int t5), (4, .int t6), (10, .int t6), (9, .int t5), (8, .int t2), (0, .ref (base + l0)), (1, .ref (base + l1)), (2, .ref (base + l2)), (3, .int l3), (7, .int l7)]) hx hb d_Moves_mostVoted_85 hl (by decide) rfl (fun ls hl => ?_)
            refine lv_goto (tgt := 107) hx hb d_Moves_mostVoted_87 (by decide) ?_
            obtain rfl := Option.some.inj eq4
            exact kJ107_4 _ _ _ hS (lv_sub hl [6, 7, 8, 9, 2, 1, 0, 10] rfl)
        · rw [if_pos c44_6] at eq4
          refine lv_goto (tgt := 107) hx hb d_Moves_mostVoted_47 (by decide) ?_
          obtain rfl := Option.some.inj eq4
          exact kJ107_4 _ _ _ hS (lv_sub hl [1, 2, 3, 4, 5, 6, 7, 8] rfl)
def f_Moves_mostVoted (h : Hp) (l0 : Nat) (l1 : Nat) (l2 : Nat) (l3 : Int32) : Option Int32 :=
  f_Moves_mostVoted_13 h l0 l1 l2 l3 FU (0 : Int32) (-6 : Int32) (0 : Int32) (0 : Int32)
set_option maxHeartbeats 4000000 in
set_option maxRecDepth 100000 in
theorem t_Moves_mostVoted {h : Hp} {l0 : Nat} {l1 : Nat} {l2 : Nat} {l3 : Int32} {r : Int32} (C : Cx base D cI cZ b_Moves_mostVoted 11 "MovedFolders$Moves" "mostVoted" (some .int) p s m args meth c) (hM : f_Moves_mostVoted h l0 l1 l2 l3 = some r) (H : Heap) (locs : List Loc) (ls : Array Slot) (hS : RS base D cI cZ s H locs h) (hl : lv_has ls 11 [(0, .ref (base + l0)), (1, .ref (base + l1)), (2, .ref (base + l2)), (3, .int l3)]) : Wg l base D cI cZ 3 69 0 0 h (some (.int r)) p e s m args below meth c H locs 0 0 (F0 m 0 ls []) := by
  have hx := C.1
  have hb := C.2.1
  unfold f_Moves_mostVoted at hM
  refine lv_iconst (v := (0 : Int32)) hx hb d_Moves_mostVoted_0 (by decide) ?_
  refine lv_istore (lv' := [(4, .int (0 : Int32)), (0, .ref (base + l0)), (1, .ref (base + l1)), (2, .ref (base + l2)), (3, .int l3)]) hx hb d_Moves_mostVoted_1 hl (by decide) rfl (fun ls hl => ?_)
  refine lv_bipush (v := (-6 : Int32)) hx hb d_Moves_mostVoted_3 (by decide) ?_
  refine lv_istore (lv' := [(5, .int (-6 : Int32)), (4, .int (0 : Int32)), (0, .ref (base + l0)), (1, .ref (base + l1)), (2, .ref (base + l2)), (3, .int l3)]) hx hb d_Moves_mostVoted_5 hl (by decide) rfl (fun ls hl => ?_)
  refine lv_iconst (v := (0 : Int32)) hx hb d_Moves_mostVoted_7 (by decide) ?_
  refine lv_istore (lv' := [(6, .int (0 : Int32)), (5, .int (-6 : Int32)), (4, .int (0 : Int32)), (0, .ref (base + l0)), (1, .ref (base + l1)), (2, .ref (base + l2)), (3, .int l3)]) hx hb d_Moves_mostVoted_8 hl (by decide) rfl (fun ls hl => ?_)
  refine lv_iconst (v := (0 : Int32)) hx hb d_Moves_mostVoted_10 (by decide) ?_
  refine lv_istore (lv' := [(7, .int (0 : Int32)), (6, .int (0 : Int32)), (5, .int (-6 : Int32)), (4, .int (0 : Int32)), (0, .ref (base + l0)), (1, .ref (base + l1)), (2, .ref (base + l2)), (3, .int l3)]) hx hb d_Moves_mostVoted_11 hl (by decide) rfl (fun ls hl => ?_)
  exact t_Moves_mostVoted_13  C  FU (0 : Int32) (-6 : Int32) (0 : Int32) (0 : Int32) hM _ _ _ hS (lv_sub hl [4, 5, 6, 7, 3, 2, 1, 0] rfl)
theorem c_Moves_mostVoted (l : Launch) (base : Nat) (D : va_G) (cI cZ : ClassId) (h : Hp) (l0 : Nat) (l1 : Nat) (l2 : Nat) (l3 : Int32) {r : Int32} (hM : f_Moves_mostVoted h l0 l1 l2 l3 = some r) : Ct l base D cI cZ y_Moves_mostVoted b_Moves_mostVoted 11 (some .int) 3 69 0 0 h [.ref (base + l0), .ref (base + l1), .ref (base + l2), .int l3] h (some (.int r)) :=
  ct_of (by decide) (Nat.le_of_ble_eq_true rfl) (fun p e s m below meth c ls C hS hl => t_Moves_mostVoted C hM _ _ _ hS hl)
theorem d_Moves_add_0 : decode b_Moves_add 0 = .ok (.iload_n 2, 1) := by decide +kernel
theorem d_Moves_add_1 : decode b_Moves_add 1 = .ok (.bipush (-6), 2) := by decide +kernel
theorem d_Moves_add_3 : decode b_Moves_add 3 = .ok (.if_icmp .eq 12, 3) := by decide +kernel
theorem d_Moves_add_6 : decode b_Moves_add 6 = .ok (.aload_n 0, 1) := by decide +kernel
theorem d_Moves_add_7 : decode b_Moves_add 7 = .ok (.getfield 22, 3) := by decide +kernel
theorem d_Moves_add_10 : decode b_Moves_add 10 = .ok (.bipush 12, 2) := by decide +kernel
theorem d_Moves_add_12 : decode b_Moves_add 12 = .ok (.if_icmp .lt 4, 3) := by decide +kernel
theorem d_Moves_add_15 : decode b_Moves_add 15 = .ok (.return_, 1) := by decide +kernel
theorem d_Moves_add_16 : decode b_Moves_add 16 = .ok (.aload_n 0, 1) := by decide +kernel
theorem d_Moves_add_17 : decode b_Moves_add 17 = .ok (.getfield 9, 3) := by decide +kernel
theorem d_Moves_add_20 : decode b_Moves_add 20 = .ok (.aload_n 0, 1) := by decide +kernel
theorem d_Moves_add_21 : decode b_Moves_add 21 = .ok (.getfield 22, 3) := by decide +kernel
theorem d_Moves_add_24 : decode b_Moves_add 24 = .ok (.iload_n 1, 1) := by decide +kernel
theorem d_Moves_add_25 : decode b_Moves_add 25 = .ok (.iastore, 1) := by decide +kernel
theorem d_Moves_add_26 : decode b_Moves_add 26 = .ok (.aload_n 0, 1) := by decide +kernel
theorem d_Moves_add_27 : decode b_Moves_add 27 = .ok (.getfield 15, 3) := by decide +kernel
theorem d_Moves_add_30 : decode b_Moves_add 30 = .ok (.aload_n 0, 1) := by decide +kernel
theorem d_Moves_add_31 : decode b_Moves_add 31 = .ok (.getfield 22, 3) := by decide +kernel
theorem d_Moves_add_34 : decode b_Moves_add 34 = .ok (.iload_n 2, 1) := by decide +kernel
theorem d_Moves_add_35 : decode b_Moves_add 35 = .ok (.iastore, 1) := by decide +kernel
theorem d_Moves_add_36 : decode b_Moves_add 36 = .ok (.aload_n 0, 1) := by decide +kernel
theorem d_Moves_add_37 : decode b_Moves_add 37 = .ok (.getfield 18, 3) := by decide +kernel
theorem d_Moves_add_40 : decode b_Moves_add 40 = .ok (.aload_n 0, 1) := by decide +kernel
theorem d_Moves_add_41 : decode b_Moves_add 41 = .ok (.getfield 22, 3) := by decide +kernel
theorem d_Moves_add_44 : decode b_Moves_add 44 = .ok (.iconst 0, 1) := by decide +kernel
theorem d_Moves_add_45 : decode b_Moves_add 45 = .ok (.bastore, 1) := by decide +kernel
theorem d_Moves_add_46 : decode b_Moves_add 46 = .ok (.aload_n 0, 1) := by decide +kernel
theorem d_Moves_add_47 : decode b_Moves_add 47 = .ok (.dup, 1) := by decide +kernel
theorem d_Moves_add_48 : decode b_Moves_add 48 = .ok (.getfield 22, 3) := by decide +kernel
theorem d_Moves_add_51 : decode b_Moves_add 51 = .ok (.iconst 1, 1) := by decide +kernel
theorem d_Moves_add_52 : decode b_Moves_add 52 = .ok (.iadd, 1) := by decide +kernel
theorem d_Moves_add_53 : decode b_Moves_add 53 = .ok (.putfield 22, 3) := by decide +kernel
theorem d_Moves_add_56 : decode b_Moves_add 56 = .ok (.return_, 1) := by decide +kernel
def f_Moves_add (h : Hp) (l0 : Nat) (l1 : Int32) (l2 : Int32) : Option Hp :=
  ck h 3 l0 (
    if l2 = (-6 : Int32) then (
      some h
    ) else (
      (gI h 3 l0 3).bind fun t1 =>
      if t1 < (12 : Int32) then (
        (gR h 3 l0 0).bind fun t2 =>
        (gI h 3 l0 3).bind fun t3 =>
        (sA h t2 t3 l1).bind fun h4 =>
        (gR h4 3 l0 1).bind fun t5 =>
        (gI h4 3 l0 3).bind fun t6 =>
        (sA h4 t5 t6 l2).bind fun h7 =>
        (gR h7 3 l0 2).bind fun t8 =>
        (gI h7 3 l0 3).bind fun t9 =>
        (sZ h7 t8 t9 (0 : Int32)).bind fun h10 =>
        (gI h10 3 l0 3).bind fun t11 =>
        (sI h10 3 l0 3 (t11 + (1 : Int32))).bind fun h12 =>
        some h12
      ) else (
        some h
      )
    )
  )
theorem o_Moves_add {h : Hp} {l0 : Nat} {l1 : Int32} {l2 : Int32} {r : Hp} (hM : f_Moves_add h l0 l1 l2 = some r) : isO h 3 l0 = true := by
  unfold f_Moves_add at hM
  exact (ck_some hM).1
set_option maxHeartbeats 4000000 in
set_option maxRecDepth 100000 in
theorem t_Moves_add {h : Hp} {l0 : Nat} {l1 : Int32} {l2 : Int32} {r : Hp} (C : Cx base D cI cZ b_Moves_add 3 "MovedFolders$Moves" "add" none p s m args meth c) (hM : f_Moves_add h l0 l1 l2 = some r) (H : Heap) (locs : List Loc) (ls : Array Slot) (hS : RS base D cI cZ s H locs h) (hl : lv_has ls 3 [(0, .ref (base + l0)), (1, .int l1), (2, .int l2)]) : Wg l base D cI cZ 0 0 0 0 r none p e s m args below meth c H locs 0 0 (F0 m 0 ls []) := by
  have hx := C.1
  have hb := C.2.1
  unfold f_Moves_add at hM
  replace hM := (ck_some hM).2
  refine lv_iload_n hx hb d_Moves_add_0 rfl (lv_at hl 2 rfl) ?_
  refine lv_bipush (v := (-6 : Int32)) hx hb d_Moves_add_1 (by decide) ?_
  refine lv_icmp_eq (tgt := 15) hx hb d_Moves_add_3 (by decide) (fun c3_1 => ?_) (fun c3_1 => ?_)
  · rw [if_pos c3_1] at hM
    obtain rfl := Option.some.inj hM
    exact r_vret C hS d_Moves_add_15
  · rw [if_neg c3_1] at hM
    refine lv_aload_n hx hb d_Moves_add_6 rfl (lv_at hl 0 rfl) ?_
    obtain ⟨t1, et1, hM⟩ := bS hM
    refine r_getI C hS fl_Moves_22 et1 d_Moves_add_7 ?_
    refine lv_bipush (v := (12 : Int32)) hx hb d_Moves_add_10 (by decide) ?_
    refine lv_icmp_lt (tgt := 16) hx hb d_Moves_add_12 (by decide) (fun c12_2 => ?_) (fun c12_2 => ?_)
    · rw [if_pos c12_2] at hM
      refine lv_aload_n hx hb d_Moves_add_16 rfl (lv_at hl 0 rfl) ?_
      obtain ⟨t2, et2, hM⟩ := bS hM
      refine r_getR C hS fl_Moves_9 et2 d_Moves_add_17 ?_
      refine lv_aload_n hx hb d_Moves_add_20 rfl (lv_at hl 0 rfl) ?_
      obtain ⟨t3, et3, hM⟩ := bS hM
      refine r_getI C hS fl_Moves_22 et3 d_Moves_add_21 ?_
      refine lv_iload_n hx hb d_Moves_add_24 rfl (lv_at hl 1 rfl) ?_
      obtain ⟨h4, eh4, hM⟩ := bS hM
      refine r_iast C hS eh4 d_Moves_add_25 (fun H locs hS => ?_)
      refine lv_aload_n hx hb d_Moves_add_26 rfl (lv_at hl 0 rfl) ?_
      obtain ⟨t5, et5, hM⟩ := bS hM
      refine r_getR C hS fl_Moves_15 et5 d_Moves_add_27 ?_
      refine lv_aload_n hx hb d_Moves_add_30 rfl (lv_at hl 0 rfl) ?_
      obtain ⟨t6, et6, hM⟩ := bS hM
      refine r_getI C hS fl_Moves_22 et6 d_Moves_add_31 ?_
      refine lv_iload_n hx hb d_Moves_add_34 rfl (lv_at hl 2 rfl) ?_
      obtain ⟨h7, eh7, hM⟩ := bS hM
      refine r_iast C hS eh7 d_Moves_add_35 (fun H locs hS => ?_)
      refine lv_aload_n hx hb d_Moves_add_36 rfl (lv_at hl 0 rfl) ?_
      obtain ⟨t8, et8, hM⟩ := bS hM
      refine r_getR C hS fl_Moves_18 et8 d_Moves_add_37 ?_
      refine lv_aload_n hx hb d_Moves_add_40 rfl (lv_at hl 0 rfl) ?_
      obtain ⟨t9, et9, hM⟩ := bS hM
      refine r_getI C hS fl_Moves_22 et9 d_Moves_add_41 ?_
      refine lv_iconst (v := (0 : Int32)) hx hb d_Moves_add_44 (by decide) ?_
      obtain ⟨h10, eh10, hM⟩ := bS hM
      refine r_zast C hS eh10 d_Moves_add_45 (fun H locs hS => ?_)
      refine lv_aload_n hx hb d_Moves_add_46 rfl (lv_at hl 0 rfl) ?_
      refine lv_dup hx hb d_Moves_add_47 rfl ?_
      obtain ⟨t11, et11, hM⟩ := bS hM
      refine r_getI C hS fl_Moves_22 et11 d_Moves_add_48 ?_
      refine lv_iconst (v := (1 : Int32)) hx hb d_Moves_add_51 (by decide) ?_
      refine lv_iadd hx hb d_Moves_add_52 ?_
      obtain ⟨h12, eh12, hM⟩ := bS hM
      refine r_putI C hS fp_Moves_22 eh12 d_Moves_add_53 (fun H locs hS => ?_)
      obtain rfl := Option.some.inj hM
      exact r_vret C hS d_Moves_add_56
    · rw [if_neg c12_2] at hM
      obtain rfl := Option.some.inj hM
      exact r_vret C hS d_Moves_add_15
theorem c_Moves_add (l : Launch) (base : Nat) (D : va_G) (cI cZ : ClassId) (h : Hp) (l0 : Nat) (l1 : Int32) (l2 : Int32) {r : Hp} (hM : f_Moves_add h l0 l1 l2 = some r) : Ct l base D cI cZ y_Moves_add b_Moves_add 3 none 0 0 0 0 h [.ref (base + l0), .int l1, .int l2] r none :=
  ct_of (by decide) (Nat.le_of_ble_eq_true rfl) (fun p e s m below meth c ls C hS hl => t_Moves_add C hM _ _ _ hS hl)
theorem d_Moves_find_0 : decode b_Moves_find 0 = .ok (.aload_n 0, 1) := by decide +kernel
theorem d_Moves_find_1 : decode b_Moves_find 1 = .ok (.iconst 0, 1) := by decide +kernel
theorem d_Moves_find_2 : decode b_Moves_find 2 = .ok (.putfield 22, 3) := by decide +kernel
theorem d_Moves_find_5 : decode b_Moves_find 5 = .ok (.iconst 0, 1) := by decide +kernel
theorem d_Moves_find_6 : decode b_Moves_find 6 = .ok (.istore 4, 2) := by decide +kernel
theorem d_Moves_find_8 : decode b_Moves_find 8 = .ok (.iload 4, 2) := by decide +kernel
theorem d_Moves_find_10 : decode b_Moves_find 10 = .ok (.aload_n 1, 1) := by decide +kernel
theorem d_Moves_find_11 : decode b_Moves_find 11 = .ok (.invokevirtual 46, 3) := by decide +kernel
theorem d_Moves_find_14 : decode b_Moves_find 14 = .ok (.if_icmp .ge 51, 3) := by decide +kernel
theorem d_Moves_find_17 : decode b_Moves_find 17 = .ok (.aload_n 1, 1) := by decide +kernel
theorem d_Moves_find_18 : decode b_Moves_find 18 = .ok (.iload 4, 2) := by decide +kernel
theorem d_Moves_find_20 : decode b_Moves_find 20 = .ok (.invokevirtual 52, 3) := by decide +kernel
theorem d_Moves_find_23 : decode b_Moves_find 23 = .ok (.istore 5, 2) := by decide +kernel
theorem d_Moves_find_25 : decode b_Moves_find 25 = .ok (.aload_n 0, 1) := by decide +kernel
theorem d_Moves_find_26 : decode b_Moves_find 26 = .ok (.iload 5, 2) := by decide +kernel
theorem d_Moves_find_28 : decode b_Moves_find 28 = .ok (.invokevirtual 26, 3) := by decide +kernel
theorem d_Moves_find_31 : decode b_Moves_find 31 = .ok (.bipush (-6), 2) := by decide +kernel
theorem d_Moves_find_33 : decode b_Moves_find 33 = .ok (.if_icmp .ne 26, 3) := by decide +kernel
theorem d_Moves_find_36 : decode b_Moves_find 36 = .ok (.aload_n 2, 1) := by decide +kernel
theorem d_Moves_find_37 : decode b_Moves_find 37 = .ok (.iload 5, 2) := by decide +kernel
theorem d_Moves_find_39 : decode b_Moves_find 39 = .ok (.invokevirtual 55, 3) := by decide +kernel
theorem d_Moves_find_42 : decode b_Moves_find 42 = .ok (.ifCond .ne 17, 3) := by decide +kernel
theorem d_Moves_find_45 : decode b_Moves_find 45 = .ok (.aload_n 0, 1) := by decide +kernel
theorem d_Moves_find_46 : decode b_Moves_find 46 = .ok (.iload 5, 2) := by decide +kernel
theorem d_Moves_find_48 : decode b_Moves_find 48 = .ok (.aload_n 1, 1) := by decide +kernel
theorem d_Moves_find_49 : decode b_Moves_find 49 = .ok (.aload_n 2, 1) := by decide +kernel
theorem d_Moves_find_50 : decode b_Moves_find 50 = .ok (.aload_n 3, 1) := by decide +kernel
theorem d_Moves_find_51 : decode b_Moves_find 51 = .ok (.iload 5, 2) := by decide +kernel
theorem d_Moves_find_53 : decode b_Moves_find 53 = .ok (.invokestatic 59, 3) := by decide +kernel
theorem d_Moves_find_56 : decode b_Moves_find 56 = .ok (.invokevirtual 63, 3) := by decide +kernel
theorem d_Moves_find_59 : decode b_Moves_find 59 = .ok (.iinc 4 1, 3) := by decide +kernel
theorem d_Moves_find_62 : decode b_Moves_find 62 = .ok (.goto (-54), 3) := by decide +kernel
theorem d_Moves_find_65 : decode b_Moves_find 65 = .ok (.return_, 1) := by decide +kernel
def f_Moves_find_8 (l0 : Nat) (l1 : Nat) (l2 : Nat) (l3 : Nat) : Nat → Int32 → Hp → Option Hp
  | 0, _, _ => none
  | n + 1, l4, h =>
    (f_Tree_size h l1).bind fun t2 =>
    if t2 ≤ l4 then (
      some h
    ) else (
      (f_Tree_folderAt h l1 l4).bind fun t3 =>
      (f_Moves_placeOf h l0 t3).bind fun t4 =>
      (
        if t4 = (-6 : Int32) then (
          (f_Tree_liesIn h l2 t3).bind fun t6 =>
          if t6 = (0 : Int32) then (
            (f_Moves_mostVoted h l1 l2 l3 t3).bind fun t7 =>
            (f_Moves_add h l0 t3 t7).bind fun h8 =>
            some h8
          ) else (
            some h
          )
        ) else (
          some h
        )
      ).bind fun h5 =>
      f_Moves_find_8 l0 l1 l2 l3 n (l4 + (1 : Int32)) h5
    )
set_option maxHeartbeats 4000000 in
set_option maxRecDepth 100000 in
theorem t_Moves_find_8 {l0 : Nat} {l1 : Nat} {l2 : Nat} {l3 : Nat} {r : Hp} (C : Cx base D cI cZ b_Moves_find 6 "MovedFolders$Moves" "find" none p s m args meth c)  : ∀ (n : Nat) (l4 : Int32) (h : Hp), f_Moves_find_8 l0 l1 l2 l3 n l4 h = some r → ∀ (H : Heap) (locs : List Loc) (ls : Array Slot), RS base D cI cZ s H locs h → lv_has ls 6 [(0, .ref (base + l0)), (1, .ref (base + l1)), (2, .ref (base + l2)), (3, .ref (base + l3)), (4, .int l4)] → Wg l base D cI cZ 4 99 0 0 r none p e s m args below meth c H locs 0 0 (F0 m 8 ls []) := by
  have hx := C.1
  have hb := C.2.1
  intro n
  induction n with
  | zero =>
    intro l4 h hM
    rw [f_Moves_find_8] at hM
    cases hM
  | succ n ih =>
    intro l4 h hM H locs ls hS hl
    rw [f_Moves_find_8] at hM
    refine lv_iload hx hb d_Moves_find_8 (lv_at hl 4 rfl) ?_
    refine lv_aload_n hx hb d_Moves_find_10 rfl (lv_at hl 1 rfl) ?_
    obtain ⟨t2, et2, hM⟩ := bS hM
    refine r_callVi (x := t2) C hS cv_Moves_46 (c_Tree_size l base D cI cZ h l1 et2) (o_Tree_size et2) (rest := [.int l4]) rfl hl.1 rfl (Nat.le_of_ble_eq_true rfl) ⟨(Nat.le_of_ble_eq_true rfl), (Nat.le_of_ble_eq_true rfl)⟩ ⟨(Nat.le_of_ble_eq_true rfl), (Nat.le_of_ble_eq_true rfl)⟩ d_Moves_find_11 (fun H locs hS => ?_)
    refine lv_icmp_ge (tgt := 65) hx hb d_Moves_find_14 (by decide) (fun c14_1 => ?_) (fun c14_1 => ?_)
    · rw [if_pos c14_1] at hM
      obtain rfl := Option.some.inj hM
      exact r_vret C hS d_Moves_find_65
    · rw [if_neg c14_1] at hM
      refine lv_aload_n hx hb d_Moves_find_17 rfl (lv_at hl 1 rfl) ?_
      refine lv_iload hx hb d_Moves_find_18 (lv_at hl 4 rfl) ?_
      obtain ⟨t3, et3, hM⟩ := bS hM
      refine r_callVi (x := t3) C hS cv_Moves_52 (c_Tree_folderAt l base D cI cZ h l1 l4 et3) (o_Tree_folderAt et3) (rest := []) rfl hl.1 rfl (Nat.le_of_ble_eq_true rfl) ⟨(Nat.le_of_ble_eq_true rfl), (Nat.le_of_ble_eq_true rfl)⟩ ⟨(Nat.le_of_ble_eq_true rfl), (Nat.le_of_ble_eq_true rfl)⟩ d_Moves_find_20 (fun H locs hS => ?_)
      refine lv_istore (lv' := [(5, .int t3), (0, .ref (base + l0)), (1, .ref (base + l1)), (2, .ref (base + l2)), (3, .ref (base + l3)), (4, .int l4)]) hx hb d_Moves_find_23 hl (by decide) rfl (fun ls hl => ?_)
      refine lv_aload_n hx hb d_Moves_find_25 rfl (lv_at hl 1 rfl) ?_
      refine lv_iload hx hb d_Moves_find_26 (lv_at hl 0 rfl) ?_
      obtain ⟨t4, et4, hM⟩ := bS hM
      refine r_callVi (x := t4) C hS cv_Moves_26 (c_Moves_placeOf l base D cI cZ h l0 t3 et4) (o_Moves_placeOf et4) (rest := []) rfl hl.1 rfl (Nat.le_of_ble_eq_true rfl) ⟨(Nat.le_of_ble_eq_true rfl), (Nat.le_of_ble_eq_true rfl)⟩ ⟨(Nat.le_of_ble_eq_true rfl), (Nat.le_of_ble_eq_true rfl)⟩ d_Moves_find_28 (fun H locs hS => ?_)
      refine lv_bipush (v := (-6 : Int32)) hx hb d_Moves_find_31 (by decide) ?_
      obtain ⟨h5, eh5, hM⟩ := bS hM
      have kJ59_2 : ∀ (H : Heap) (locs : List Loc) (ls : Array Slot), RS base D cI cZ s H locs h5 → lv_has ls 6 [(0, .ref (base + l0)), (1, .ref (base + l1)), (2, .ref (base + l2)), (3, .ref (base + l3)), (4, .int l4)] → Wg l base D cI cZ 4 99 0 0 r none p e s m args below meth c H locs 0 0 (F0 m 59 ls []) := by
        intro H locs ls hS hl
        refine lv_iinc (v := (l4 + (1 : Int32))) (lv' := [(4, .int (l4 + (1 : Int32))), (0, .ref (base + l0)), (1, .ref (base + l1)), (2, .ref (base + l2)), (3, .ref (base + l3))]) hx hb d_Moves_find_59 hl (k := 4) rfl (by rw [oi_1]) (by decide) rfl (fun ls hl => ?_)
        refine lv_goto (tgt := 8) hx hb d_Moves_find_62 (by decide) ?_
        exact ih (l4 + (1 : Int32)) h5 hM _ _ _ hS (lv_sub hl [1, 2, 3, 4, 0] rfl)
      refine lv_icmp_ne (tgt := 59) hx hb d_Moves_find_33 (by decide) (fun c33_3 => ?_) (fun c33_3 => ?_)
      · rw [if_neg c33_3] at eh5
        obtain rfl := Option.some.inj eh5
        exact kJ59_2 _ _ _ hS (lv_sub hl [1, 2, 3, 4, 5] rfl)
      · rw [if_pos c33_3] at eh5
        refine lv_aload_n hx hb d_Moves_find_36 rfl (lv_at hl 3 rfl) ?_
        refine lv_iload hx hb d_Moves_find_37 (lv_at hl 0 rfl) ?_
        obtain ⟨t6, et6, eh5⟩ := bS eh5
        refine r_callVi (x := t6) C hS cv_Moves_55 (c_Tree_liesIn l base D cI cZ h l2 t3 et6) (o_Tree_liesIn et6) (rest := []) rfl hl.1 rfl (Nat.le_of_ble_eq_true rfl) ⟨(Nat.le_of_ble_eq_true rfl), (Nat.le_of_ble_eq_true rfl)⟩ ⟨(Nat.le_of_ble_eq_true rfl), (Nat.le_of_ble_eq_true rfl)⟩ d_Moves_find_39 (fun H locs hS => ?_)
        refine lv_if_ne (tgt := 59) hx hb d_Moves_find_42 (by decide) (fun c42_4 => ?_) (fun c42_4 => ?_)
        · rw [if_neg c42_4] at eh5
          obtain rfl := Option.some.inj eh5
          exact kJ59_2 _ _ _ hS (lv_sub hl [1, 2, 3, 4, 5] rfl)
        · rw [if_pos c42_4] at eh5
          refine lv_aload_n hx hb d_Moves_find_45 rfl (lv_at hl 1 rfl) ?_
          refine lv_iload hx hb d_Moves_find_46 (lv_at hl 0 rfl) ?_
          refine lv_aload_n hx hb d_Moves_find_48 rfl (lv_at hl 2 rfl) ?_
          refine lv_aload_n hx hb d_Moves_find_49 rfl (lv_at hl 3 rfl) ?_
          refine lv_aload_n hx hb d_Moves_find_50 rfl (lv_at hl 4 rfl) ?_
          refine lv_iload hx hb d_Moves_find_51 (lv_at hl 0 rfl) ?_
          obtain ⟨t7, et7, eh5⟩ := bS eh5
          refine r_callSi (x := t7) C hS cs_Moves_59 (c_Moves_mostVoted l base D cI cZ h l1 l2 l3 t3 et7) (rest := [.int t3, .ref (base + l0)]) rfl hl.1 rfl (Nat.le_of_ble_eq_true rfl) ⟨(Nat.le_of_ble_eq_true rfl), (Nat.le_of_ble_eq_true rfl)⟩ ⟨(Nat.le_of_ble_eq_true rfl), (Nat.le_of_ble_eq_true rfl)⟩ d_Moves_find_53 (fun H locs hS => ?_)
          obtain ⟨h8, eh8, eh5⟩ := bS eh5
          refine r_callVv C hS cv_Moves_63 (c_Moves_add l base D cI cZ h l0 t3 t7 eh8) (o_Moves_add eh8) (rest := []) rfl hl.1 rfl (Nat.le_of_ble_eq_true rfl) ⟨(Nat.le_of_ble_eq_true rfl), (Nat.le_of_ble_eq_true rfl)⟩ ⟨(Nat.le_of_ble_eq_true rfl), (Nat.le_of_ble_eq_true rfl)⟩ d_Moves_find_56 (fun H locs hS => ?_)
          obtain rfl := Option.some.inj eh5
          exact kJ59_2 _ _ _ hS (lv_sub hl [1, 2, 3, 4, 5] rfl)
def f_Moves_find (h : Hp) (l0 : Nat) (l1 : Nat) (l2 : Nat) (l3 : Nat) : Option Hp :=
  ck h 3 l0 (
    (sI h 3 l0 3 (0 : Int32)).bind fun h1 =>
    f_Moves_find_8 l0 l1 l2 l3 FU (0 : Int32) h1
  )
theorem o_Moves_find {h : Hp} {l0 : Nat} {l1 : Nat} {l2 : Nat} {l3 : Nat} {r : Hp} (hM : f_Moves_find h l0 l1 l2 l3 = some r) : isO h 3 l0 = true := by
  unfold f_Moves_find at hM
  exact (ck_some hM).1
set_option maxHeartbeats 4000000 in
set_option maxRecDepth 100000 in
theorem t_Moves_find {h : Hp} {l0 : Nat} {l1 : Nat} {l2 : Nat} {l3 : Nat} {r : Hp} (C : Cx base D cI cZ b_Moves_find 6 "MovedFolders$Moves" "find" none p s m args meth c) (hM : f_Moves_find h l0 l1 l2 l3 = some r) (H : Heap) (locs : List Loc) (ls : Array Slot) (hS : RS base D cI cZ s H locs h) (hl : lv_has ls 6 [(0, .ref (base + l0)), (1, .ref (base + l1)), (2, .ref (base + l2)), (3, .ref (base + l3))]) : Wg l base D cI cZ 4 99 0 0 r none p e s m args below meth c H locs 0 0 (F0 m 0 ls []) := by
  have hx := C.1
  have hb := C.2.1
  unfold f_Moves_find at hM
  replace hM := (ck_some hM).2
  refine lv_aload_n hx hb d_Moves_find_0 rfl (lv_at hl 0 rfl) ?_
  refine lv_iconst (v := (0 : Int32)) hx hb d_Moves_find_1 (by decide) ?_
  obtain ⟨h1, eh1, hM⟩ := bS hM
  refine r_putI C hS fp_Moves_22 eh1 d_Moves_find_2 (fun H locs hS => ?_)
  refine lv_iconst (v := (0 : Int32)) hx hb d_Moves_find_5 (by decide) ?_
  refine lv_istore (lv' := [(4, .int (0 : Int32)), (0, .ref (base + l0)), (1, .ref (base + l1)), (2, .ref (base + l2)), (3, .ref (base + l3))]) hx hb d_Moves_find_6 hl (by decide) rfl (fun ls hl => ?_)
  exact t_Moves_find_8  C  FU (0 : Int32) h1 hM _ _ _ hS (lv_sub hl [1, 2, 3, 4, 0] rfl)
theorem c_Moves_find (l : Launch) (base : Nat) (D : va_G) (cI cZ : ClassId) (h : Hp) (l0 : Nat) (l1 : Nat) (l2 : Nat) (l3 : Nat) {r : Hp} (hM : f_Moves_find h l0 l1 l2 l3 = some r) : Ct l base D cI cZ y_Moves_find b_Moves_find 6 none 4 99 0 0 h [.ref (base + l0), .ref (base + l1), .ref (base + l2), .ref (base + l3)] r none :=
  ct_of (by decide) (Nat.le_of_ble_eq_true rfl) (fun p e s m below meth c ls C hS hl => t_Moves_find C hM _ _ _ hS hl)
theorem d_Pad_init_0 : decode b_Pad_init 0 = .ok (.aload_n 0, 1) := by decide +kernel
theorem d_Pad_init_1 : decode b_Pad_init 1 = .ok (.invokespecial 3, 3) := by decide +kernel
theorem d_Pad_init_4 : decode b_Pad_init 4 = .ok (.aload_n 0, 1) := by decide +kernel
theorem d_Pad_init_5 : decode b_Pad_init 5 = .ok (.bipush 60, 2) := by decide +kernel
theorem d_Pad_init_7 : decode b_Pad_init 7 = .ok (.newarray .int, 2) := by decide +kernel
theorem d_Pad_init_9 : decode b_Pad_init 9 = .ok (.putfield 9, 3) := by decide +kernel
theorem d_Pad_init_12 : decode b_Pad_init 12 = .ok (.aload_n 0, 1) := by decide +kernel
theorem d_Pad_init_13 : decode b_Pad_init 13 = .ok (.iconst 0, 1) := by decide +kernel
theorem d_Pad_init_14 : decode b_Pad_init 14 = .ok (.putfield 15, 3) := by decide +kernel
theorem d_Pad_init_17 : decode b_Pad_init 17 = .ok (.return_, 1) := by decide +kernel
def f_Pad_init (h : Hp) (l0 : Nat) : Option Hp :=
  ck h 4 l0 (
    (sR (h ++ [.inl (false, 60, fun _ => 0)]) 4 l0 0 h.length).bind fun h1 =>
    (sI h1 4 l0 1 (0 : Int32)).bind fun h2 =>
    some h2
  )
theorem o_Pad_init {h : Hp} {l0 : Nat} {r : Hp} (hM : f_Pad_init h l0 = some r) : isO h 4 l0 = true := by
  unfold f_Pad_init at hM
  exact (ck_some hM).1
set_option maxHeartbeats 4000000 in
set_option maxRecDepth 100000 in
theorem t_Pad_init {h : Hp} {l0 : Nat} {r : Hp} (C : Cx base D cI cZ b_Pad_init 1 "MovedFolders$Pad" "<init>" none p s m args meth c) (hM : f_Pad_init h l0 = some r) (H : Heap) (locs : List Loc) (ls : Array Slot) (hS : RS base D cI cZ s H locs h) (hl : lv_has ls 1 [(0, .ref (base + l0))]) : Wg l base D cI cZ 1 12 1 60 r none p e s m args below meth c H locs 0 0 (F0 m 0 ls []) := by
  have hx := C.1
  have hb := C.2.1
  unfold f_Pad_init at hM
  replace hM := (ck_some hM).2
  refine lv_aload_n hx hb d_Pad_init_0 rfl (lv_at hl 0 rfl) ?_
  refine r_obj C oi_Pad_3 hl.1 rfl ⟨(Nat.le_of_ble_eq_true rfl), (Nat.le_of_ble_eq_true rfl)⟩ d_Pad_init_1 ?_
  refine lv_aload_n hx hb d_Pad_init_4 rfl (lv_at hl 0 rfl) ?_
  refine lv_bipush (v := (60 : Int32)) hx hb d_Pad_init_5 (by decide) ?_
  refine r_newI (N := 60) C hS ac_int (by decide) (by decide) (Nat.le_of_ble_eq_true rfl) (Nat.le_of_ble_eq_true rfl) (Nat.le_of_ble_eq_true rfl) d_Pad_init_7 (fun H hS => ?_)
  obtain ⟨h1, eh1, hM⟩ := bS hM
  refine r_putF C hS fp_Pad_9 (fun q hq => by cases hq; rfl) eh1 rfl rfl d_Pad_init_9 (fun H locs hS => ?_)
  refine lv_aload_n hx hb d_Pad_init_12 rfl (lv_at hl 0 rfl) ?_
  refine lv_iconst (v := (0 : Int32)) hx hb d_Pad_init_13 (by decide) ?_
  obtain ⟨h2, eh2, hM⟩ := bS hM
  refine r_putI C hS fp_Pad_15 eh2 d_Pad_init_14 (fun H locs hS => ?_)
  obtain rfl := Option.some.inj hM
  exact r_vret C hS d_Pad_init_17
theorem c_Pad_init (l : Launch) (base : Nat) (D : va_G) (cI cZ : ClassId) (h : Hp) (l0 : Nat) {r : Hp} (hM : f_Pad_init h l0 = some r) : Ct l base D cI cZ y_Pad_init b_Pad_init 1 none 1 12 1 60 h [.ref (base + l0)] r none :=
  ct_of (by decide) (Nat.le_of_ble_eq_true rfl) (fun p e s m below meth c ls C hS hl => t_Pad_init C hM _ _ _ hS hl)
theorem d_Pad_size_0 : decode b_Pad_size 0 = .ok (.aload_n 0, 1) := by decide +kernel
theorem d_Pad_size_1 : decode b_Pad_size 1 = .ok (.getfield 15, 3) := by decide +kernel
theorem d_Pad_size_4 : decode b_Pad_size 4 = .ok (.ireturn, 1) := by decide +kernel
def f_Pad_size (h : Hp) (l0 : Nat) : Option Int32 :=
  ck h 4 l0 (
    (gI h 4 l0 1).bind fun t1 =>
    some t1
  )
theorem o_Pad_size {h : Hp} {l0 : Nat} {r : Int32} (hM : f_Pad_size h l0 = some r) : isO h 4 l0 = true := by
  unfold f_Pad_size at hM
  exact (ck_some hM).1
set_option maxHeartbeats 4000000 in
set_option maxRecDepth 100000 in
theorem t_Pad_size {h : Hp} {l0 : Nat} {r : Int32} (C : Cx base D cI cZ b_Pad_size 1 "MovedFolders$Pad" "size" (some .int) p s m args meth c) (hM : f_Pad_size h l0 = some r) (H : Heap) (locs : List Loc) (ls : Array Slot) (hS : RS base D cI cZ s H locs h) (hl : lv_has ls 1 [(0, .ref (base + l0))]) : Wg l base D cI cZ 0 0 0 0 h (some (.int r)) p e s m args below meth c H locs 0 0 (F0 m 0 ls []) := by
  have hx := C.1
  have hb := C.2.1
  unfold f_Pad_size at hM
  replace hM := (ck_some hM).2
  refine lv_aload_n hx hb d_Pad_size_0 rfl (lv_at hl 0 rfl) ?_
  obtain ⟨t1, et1, hM⟩ := bS hM
  refine r_getI C hS fl_Pad_15 et1 d_Pad_size_1 ?_
  obtain rfl := Option.some.inj hM
  exact r_iret C hS d_Pad_size_4
theorem c_Pad_size (l : Launch) (base : Nat) (D : va_G) (cI cZ : ClassId) (h : Hp) (l0 : Nat) {r : Int32} (hM : f_Pad_size h l0 = some r) : Ct l base D cI cZ y_Pad_size b_Pad_size 1 (some .int) 0 0 0 0 h [.ref (base + l0)] h (some (.int r)) :=
  ct_of (by decide) (Nat.le_of_ble_eq_true rfl) (fun p e s m below meth c ls C hS hl => t_Pad_size C hM _ _ _ hS hl)
theorem d_Pad_add_0 : decode b_Pad_add 0 = .ok (.aload_n 0, 1) := by decide +kernel
theorem d_Pad_add_1 : decode b_Pad_add 1 = .ok (.getfield 15, 3) := by decide +kernel
theorem d_Pad_add_4 : decode b_Pad_add 4 = .ok (.bipush 60, 2) := by decide +kernel
theorem d_Pad_add_6 : decode b_Pad_add 6 = .ok (.if_icmp .lt 5, 3) := by decide +kernel
theorem d_Pad_add_9 : decode b_Pad_add 9 = .ok (.iconst 0, 1) := by decide +kernel
theorem d_Pad_add_10 : decode b_Pad_add 10 = .ok (.ireturn, 1) := by decide +kernel
theorem d_Pad_add_11 : decode b_Pad_add 11 = .ok (.aload_n 0, 1) := by decide +kernel
theorem d_Pad_add_12 : decode b_Pad_add 12 = .ok (.getfield 9, 3) := by decide +kernel
theorem d_Pad_add_15 : decode b_Pad_add 15 = .ok (.aload_n 0, 1) := by decide +kernel
theorem d_Pad_add_16 : decode b_Pad_add 16 = .ok (.getfield 15, 3) := by decide +kernel
theorem d_Pad_add_19 : decode b_Pad_add 19 = .ok (.iload_n 1, 1) := by decide +kernel
theorem d_Pad_add_20 : decode b_Pad_add 20 = .ok (.iastore, 1) := by decide +kernel
theorem d_Pad_add_21 : decode b_Pad_add 21 = .ok (.aload_n 0, 1) := by decide +kernel
theorem d_Pad_add_22 : decode b_Pad_add 22 = .ok (.dup, 1) := by decide +kernel
theorem d_Pad_add_23 : decode b_Pad_add 23 = .ok (.getfield 15, 3) := by decide +kernel
theorem d_Pad_add_26 : decode b_Pad_add 26 = .ok (.iconst 1, 1) := by decide +kernel
theorem d_Pad_add_27 : decode b_Pad_add 27 = .ok (.iadd, 1) := by decide +kernel
theorem d_Pad_add_28 : decode b_Pad_add 28 = .ok (.putfield 15, 3) := by decide +kernel
theorem d_Pad_add_31 : decode b_Pad_add 31 = .ok (.iconst 1, 1) := by decide +kernel
theorem d_Pad_add_32 : decode b_Pad_add 32 = .ok (.ireturn, 1) := by decide +kernel
def f_Pad_add (h : Hp) (l0 : Nat) (l1 : Int32) : Option (Int32 × Hp) :=
  ck h 4 l0 (
    (gI h 4 l0 1).bind fun t1 =>
    if t1 < (60 : Int32) then (
      (gR h 4 l0 0).bind fun t2 =>
      (gI h 4 l0 1).bind fun t3 =>
      (sA h t2 t3 l1).bind fun h4 =>
      (gI h4 4 l0 1).bind fun t5 =>
      (sI h4 4 l0 1 (t5 + (1 : Int32))).bind fun h6 =>
      (rz (1 : Int32)).bind fun t7 => some (t7, h6)
    ) else (
      (rz (0 : Int32)).bind fun t8 => some (t8, h)
    )
  )
theorem o_Pad_add {h : Hp} {l0 : Nat} {l1 : Int32} {r : (Int32 × Hp)} (hM : f_Pad_add h l0 l1 = some r) : isO h 4 l0 = true := by
  unfold f_Pad_add at hM
  exact (ck_some hM).1
set_option maxHeartbeats 4000000 in
set_option maxRecDepth 100000 in
theorem t_Pad_add {h : Hp} {l0 : Nat} {l1 : Int32} {r : (Int32 × Hp)} (C : Cx base D cI cZ b_Pad_add 2 "MovedFolders$Pad" "add" (some .boolean) p s m args meth c) (hM : f_Pad_add h l0 l1 = some r) (H : Heap) (locs : List Loc) (ls : Array Slot) (hS : RS base D cI cZ s H locs h) (hl : lv_has ls 2 [(0, .ref (base + l0)), (1, .int l1)]) : Wg l base D cI cZ 0 0 0 0 r.2 (some (.int r.1)) p e s m args below meth c H locs 0 0 (F0 m 0 ls []) := by
  have hx := C.1
  have hb := C.2.1
  unfold f_Pad_add at hM
  replace hM := (ck_some hM).2
  refine lv_aload_n hx hb d_Pad_add_0 rfl (lv_at hl 0 rfl) ?_
  obtain ⟨t1, et1, hM⟩ := bS hM
  refine r_getI C hS fl_Pad_15 et1 d_Pad_add_1 ?_
  refine lv_bipush (v := (60 : Int32)) hx hb d_Pad_add_4 (by decide) ?_
  refine lv_icmp_lt (tgt := 11) hx hb d_Pad_add_6 (by decide) (fun c6_1 => ?_) (fun c6_1 => ?_)
  · rw [if_pos c6_1] at hM
    refine lv_aload_n hx hb d_Pad_add_11 rfl (lv_at hl 0 rfl) ?_
    obtain ⟨t2, et2, hM⟩ := bS hM
    refine r_getR C hS fl_Pad_9 et2 d_Pad_add_12 ?_
    refine lv_aload_n hx hb d_Pad_add_15 rfl (lv_at hl 0 rfl) ?_
    obtain ⟨t3, et3, hM⟩ := bS hM
    refine r_getI C hS fl_Pad_15 et3 d_Pad_add_16 ?_
    refine lv_iload_n hx hb d_Pad_add_19 rfl (lv_at hl 1 rfl) ?_
    obtain ⟨h4, eh4, hM⟩ := bS hM
    refine r_iast C hS eh4 d_Pad_add_20 (fun H locs hS => ?_)
    refine lv_aload_n hx hb d_Pad_add_21 rfl (lv_at hl 0 rfl) ?_
    refine lv_dup hx hb d_Pad_add_22 rfl ?_
    obtain ⟨t5, et5, hM⟩ := bS hM
    refine r_getI C hS fl_Pad_15 et5 d_Pad_add_23 ?_
    refine lv_iconst (v := (1 : Int32)) hx hb d_Pad_add_26 (by decide) ?_
    refine lv_iadd hx hb d_Pad_add_27 ?_
    obtain ⟨h6, eh6, hM⟩ := bS hM
    refine r_putI C hS fp_Pad_15 eh6 d_Pad_add_28 (fun H locs hS => ?_)
    refine lv_iconst (v := (1 : Int32)) hx hb d_Pad_add_31 (by decide) ?_
    obtain ⟨t7, et7, hM⟩ := bS hM
    obtain rfl := Option.some.inj hM
    exact r_zret C hS et7 d_Pad_add_32
  · rw [if_neg c6_1] at hM
    refine lv_iconst (v := (0 : Int32)) hx hb d_Pad_add_9 (by decide) ?_
    obtain ⟨t8, et8, hM⟩ := bS hM
    obtain rfl := Option.some.inj hM
    exact r_zret C hS et8 d_Pad_add_10
theorem c_Pad_add (l : Launch) (base : Nat) (D : va_G) (cI cZ : ClassId) (h : Hp) (l0 : Nat) (l1 : Int32) {r : (Int32 × Hp)} (hM : f_Pad_add h l0 l1 = some r) : Ct l base D cI cZ y_Pad_add b_Pad_add 2 (some .boolean) 0 0 0 0 h [.ref (base + l0), .int l1] r.2 (some (.int r.1)) :=
  ct_of (by decide) (Nat.le_of_ble_eq_true rfl) (fun p e s m below meth c ls C hS hl => t_Pad_add C hM _ _ _ hS hl)
theorem d_Pad_clear_0 : decode b_Pad_clear 0 = .ok (.aload_n 0, 1) := by decide +kernel
theorem d_Pad_clear_1 : decode b_Pad_clear 1 = .ok (.iconst 0, 1) := by decide +kernel
theorem d_Pad_clear_2 : decode b_Pad_clear 2 = .ok (.putfield 15, 3) := by decide +kernel
theorem d_Pad_clear_5 : decode b_Pad_clear 5 = .ok (.return_, 1) := by decide +kernel
def f_Pad_clear (h : Hp) (l0 : Nat) : Option Hp :=
  ck h 4 l0 (
    (sI h 4 l0 1 (0 : Int32)).bind fun h1 =>
    some h1
  )
theorem o_Pad_clear {h : Hp} {l0 : Nat} {r : Hp} (hM : f_Pad_clear h l0 = some r) : isO h 4 l0 = true := by
  unfold f_Pad_clear at hM
  exact (ck_some hM).1
set_option maxHeartbeats 4000000 in
set_option maxRecDepth 100000 in
theorem t_Pad_clear {h : Hp} {l0 : Nat} {r : Hp} (C : Cx base D cI cZ b_Pad_clear 1 "MovedFolders$Pad" "clear" none p s m args meth c) (hM : f_Pad_clear h l0 = some r) (H : Heap) (locs : List Loc) (ls : Array Slot) (hS : RS base D cI cZ s H locs h) (hl : lv_has ls 1 [(0, .ref (base + l0))]) : Wg l base D cI cZ 0 0 0 0 r none p e s m args below meth c H locs 0 0 (F0 m 0 ls []) := by
  have hx := C.1
  have hb := C.2.1
  unfold f_Pad_clear at hM
  replace hM := (ck_some hM).2
  refine lv_aload_n hx hb d_Pad_clear_0 rfl (lv_at hl 0 rfl) ?_
  refine lv_iconst (v := (0 : Int32)) hx hb d_Pad_clear_1 (by decide) ?_
  obtain ⟨h1, eh1, hM⟩ := bS hM
  refine r_putI C hS fp_Pad_15 eh1 d_Pad_clear_2 (fun H locs hS => ?_)
  obtain rfl := Option.some.inj hM
  exact r_vret C hS d_Pad_clear_5
theorem c_Pad_clear (l : Launch) (base : Nat) (D : va_G) (cI cZ : ClassId) (h : Hp) (l0 : Nat) {r : Hp} (hM : f_Pad_clear h l0 = some r) : Ct l base D cI cZ y_Pad_clear b_Pad_clear 1 none 0 0 0 0 h [.ref (base + l0)] r none :=
  ct_of (by decide) (Nat.le_of_ble_eq_true rfl) (fun p e s m below meth c ls C hS hl => t_Pad_clear C hM _ _ _ hS hl)
theorem d_Pad_signAt_0 : decode b_Pad_signAt 0 = .ok (.iload_n 1, 1) := by decide +kernel
theorem d_Pad_signAt_1 : decode b_Pad_signAt 1 = .ok (.ifCond .lt 20, 3) := by decide +kernel
theorem d_Pad_signAt_4 : decode b_Pad_signAt 4 = .ok (.iload_n 1, 1) := by decide +kernel
theorem d_Pad_signAt_5 : decode b_Pad_signAt 5 = .ok (.aload_n 0, 1) := by decide +kernel
theorem d_Pad_signAt_6 : decode b_Pad_signAt 6 = .ok (.getfield 15, 3) := by decide +kernel
theorem d_Pad_signAt_9 : decode b_Pad_signAt 9 = .ok (.if_icmp .ge 12, 3) := by decide +kernel
theorem d_Pad_signAt_12 : decode b_Pad_signAt 12 = .ok (.aload_n 0, 1) := by decide +kernel
theorem d_Pad_signAt_13 : decode b_Pad_signAt 13 = .ok (.getfield 9, 3) := by decide +kernel
theorem d_Pad_signAt_16 : decode b_Pad_signAt 16 = .ok (.iload_n 1, 1) := by decide +kernel
theorem d_Pad_signAt_17 : decode b_Pad_signAt 17 = .ok (.iaload, 1) := by decide +kernel
theorem d_Pad_signAt_18 : decode b_Pad_signAt 18 = .ok (.goto 4, 3) := by decide +kernel
theorem d_Pad_signAt_21 : decode b_Pad_signAt 21 = .ok (.iconst 0, 1) := by decide +kernel
theorem d_Pad_signAt_22 : decode b_Pad_signAt 22 = .ok (.ireturn, 1) := by decide +kernel
def f_Pad_signAt (h : Hp) (l0 : Nat) (l1 : Int32) : Option Int32 :=
  ck h 4 l0 (
    (
      if l1 < (0 : Int32) then (
        some (0 : Int32)
      ) else (
        (gI h 4 l0 1).bind fun t2 =>
        if t2 ≤ l1 then (
          some (0 : Int32)
        ) else (
          (gR h 4 l0 0).bind fun t3 =>
          (gA h false t3 l1).bind fun t4 =>
          some t4
        )
      )
    ).bind fun t1 =>
    some t1
  )
theorem o_Pad_signAt {h : Hp} {l0 : Nat} {l1 : Int32} {r : Int32} (hM : f_Pad_signAt h l0 l1 = some r) : isO h 4 l0 = true := by
  unfold f_Pad_signAt at hM
  exact (ck_some hM).1
set_option maxHeartbeats 4000000 in
set_option maxRecDepth 100000 in
theorem t_Pad_signAt {h : Hp} {l0 : Nat} {l1 : Int32} {r : Int32} (C : Cx base D cI cZ b_Pad_signAt 2 "MovedFolders$Pad" "signAt" (some .int) p s m args meth c) (hM : f_Pad_signAt h l0 l1 = some r) (H : Heap) (locs : List Loc) (ls : Array Slot) (hS : RS base D cI cZ s H locs h) (hl : lv_has ls 2 [(0, .ref (base + l0)), (1, .int l1)]) : Wg l base D cI cZ 0 0 0 0 h (some (.int r)) p e s m args below meth c H locs 0 0 (F0 m 0 ls []) := by
  have hx := C.1
  have hb := C.2.1
  unfold f_Pad_signAt at hM
  replace hM := (ck_some hM).2
  refine lv_iload_n hx hb d_Pad_signAt_0 rfl (lv_at hl 1 rfl) ?_
  obtain ⟨t1, et1, hM⟩ := bS hM
  have kJ22_1 : ∀ (H : Heap) (locs : List Loc) (ls : Array Slot), RS base D cI cZ s H locs h → lv_has ls 2 [] → Wg l base D cI cZ 0 0 0 0 h (some (.int r)) p e s m args below meth c H locs 0 0 (F0 m 22 ls [.int t1]) := by
    intro H locs ls hS hl
    obtain rfl := Option.some.inj hM
    exact r_iret C hS d_Pad_signAt_22
  refine lv_if_lt (tgt := 21) hx hb d_Pad_signAt_1 (by decide) (fun c1_2 => ?_) (fun c1_2 => ?_)
  · rw [if_pos c1_2] at et1
    refine lv_iconst (v := (0 : Int32)) hx hb d_Pad_signAt_21 (by decide) ?_
    obtain rfl := Option.some.inj et1
    exact kJ22_1 _ _ _ hS (lv_sub hl [] rfl)
  · rw [if_neg c1_2] at et1
    refine lv_iload_n hx hb d_Pad_signAt_4 rfl (lv_at hl 1 rfl) ?_
    refine lv_aload_n hx hb d_Pad_signAt_5 rfl (lv_at hl 0 rfl) ?_
    obtain ⟨t2, et2, et1⟩ := bS et1
    refine r_getI C hS fl_Pad_15 et2 d_Pad_signAt_6 ?_
    refine lv_icmp_ge (tgt := 21) hx hb d_Pad_signAt_9 (by decide) (fun c9_3 => ?_) (fun c9_3 => ?_)
    · rw [if_pos c9_3] at et1
      refine lv_iconst (v := (0 : Int32)) hx hb d_Pad_signAt_21 (by decide) ?_
      obtain rfl := Option.some.inj et1
      exact kJ22_1 _ _ _ hS (lv_sub hl [] rfl)
    · rw [if_neg c9_3] at et1
      refine lv_aload_n hx hb d_Pad_signAt_12 rfl (lv_at hl 0 rfl) ?_
      obtain ⟨t3, et3, et1⟩ := bS et1
      refine r_getR C hS fl_Pad_9 et3 d_Pad_signAt_13 ?_
      refine lv_iload_n hx hb d_Pad_signAt_16 rfl (lv_at hl 1 rfl) ?_
      obtain ⟨t4, et4, et1⟩ := bS et1
      refine r_iald C hS et4 d_Pad_signAt_17 ?_
      refine lv_goto (tgt := 22) hx hb d_Pad_signAt_18 (by decide) ?_
      obtain rfl := Option.some.inj et1
      exact kJ22_1 _ _ _ hS (lv_sub hl [] rfl)
theorem c_Pad_signAt (l : Launch) (base : Nat) (D : va_G) (cI cZ : ClassId) (h : Hp) (l0 : Nat) (l1 : Int32) {r : Int32} (hM : f_Pad_signAt h l0 l1 = some r) : Ct l base D cI cZ y_Pad_signAt b_Pad_signAt 2 (some .int) 0 0 0 0 h [.ref (base + l0), .int l1] h (some (.int r)) :=
  ct_of (by decide) (Nat.le_of_ble_eq_true rfl) (fun p e s m below meth c ls C hS hl => t_Pad_signAt C hM _ _ _ hS hl)
theorem d_Pad_runOf_0 : decode b_Pad_runOf 0 = .ok (.iconst 0, 1) := by decide +kernel
theorem d_Pad_runOf_1 : decode b_Pad_runOf 1 = .ok (.istore 5, 2) := by decide +kernel
theorem d_Pad_runOf_3 : decode b_Pad_runOf 3 = .ok (.iconst 0, 1) := by decide +kernel
theorem d_Pad_runOf_4 : decode b_Pad_runOf 4 = .ok (.istore 6, 2) := by decide +kernel
theorem d_Pad_runOf_6 : decode b_Pad_runOf 6 = .ok (.iload 6, 2) := by decide +kernel
theorem d_Pad_runOf_8 : decode b_Pad_runOf 8 = .ok (.iload 4, 2) := by decide +kernel
theorem d_Pad_runOf_10 : decode b_Pad_runOf 10 = .ok (.if_icmp .ge 37, 3) := by decide +kernel
theorem d_Pad_runOf_13 : decode b_Pad_runOf 13 = .ok (.aload_n 0, 1) := by decide +kernel
theorem d_Pad_runOf_14 : decode b_Pad_runOf 14 = .ok (.iload_n 1, 1) := by decide +kernel
theorem d_Pad_runOf_15 : decode b_Pad_runOf 15 = .ok (.iload 6, 2) := by decide +kernel
theorem d_Pad_runOf_17 : decode b_Pad_runOf 17 = .ok (.iadd, 1) := by decide +kernel
theorem d_Pad_runOf_18 : decode b_Pad_runOf 18 = .ok (.invokevirtual 19, 3) := by decide +kernel
theorem d_Pad_runOf_21 : decode b_Pad_runOf 21 = .ok (.istore 7, 2) := by decide +kernel
theorem d_Pad_runOf_23 : decode b_Pad_runOf 23 = .ok (.iload 7, 2) := by decide +kernel
theorem d_Pad_runOf_25 : decode b_Pad_runOf 25 = .ok (.iload_n 2, 1) := by decide +kernel
theorem d_Pad_runOf_26 : decode b_Pad_runOf 26 = .ok (.if_icmp .lt 9, 3) := by decide +kernel
theorem d_Pad_runOf_29 : decode b_Pad_runOf 29 = .ok (.iload 7, 2) := by decide +kernel
theorem d_Pad_runOf_31 : decode b_Pad_runOf 31 = .ok (.iload_n 3, 1) := by decide +kernel
theorem d_Pad_runOf_32 : decode b_Pad_runOf 32 = .ok (.if_icmp .le 6, 3) := by decide +kernel
theorem d_Pad_runOf_35 : decode b_Pad_runOf 35 = .ok (.iload 5, 2) := by decide +kernel
theorem d_Pad_runOf_37 : decode b_Pad_runOf 37 = .ok (.ireturn, 1) := by decide +kernel
theorem d_Pad_runOf_38 : decode b_Pad_runOf 38 = .ok (.iinc 5 1, 3) := by decide +kernel
theorem d_Pad_runOf_41 : decode b_Pad_runOf 41 = .ok (.iinc 6 1, 3) := by decide +kernel
theorem d_Pad_runOf_44 : decode b_Pad_runOf 44 = .ok (.goto (-38), 3) := by decide +kernel
theorem d_Pad_runOf_47 : decode b_Pad_runOf 47 = .ok (.iload 5, 2) := by decide +kernel
theorem d_Pad_runOf_49 : decode b_Pad_runOf 49 = .ok (.ireturn, 1) := by decide +kernel
def f_Pad_runOf_6 (h : Hp) (l0 : Nat) (l1 : Int32) (l2 : Int32) (l3 : Int32) (l4 : Int32) : Nat → Int32 → Int32 → Option Int32
  | 0, _, _ => none
  | n + 1, l5, l6 =>
    if l4 ≤ l6 then (
      some l5
    ) else (
      (f_Pad_signAt h l0 (l1 + l6)).bind fun t1 =>
      if t1 < l2 then (
        some l5
      ) else (
        if t1 ≤ l3 then (
          f_Pad_runOf_6 h l0 l1 l2 l3 l4 n (l5 + (1 : Int32)) (l6 + (1 : Int32))
        ) else (
          some l5
        )
      )
    )
set_option maxHeartbeats 4000000 in
set_option maxRecDepth 100000 in
theorem t_Pad_runOf_6 {h : Hp} {l0 : Nat} {l1 : Int32} {l2 : Int32} {l3 : Int32} {l4 : Int32} {r : Int32} (C : Cx base D cI cZ b_Pad_runOf 8 "MovedFolders$Pad" "runOf" (some .int) p s m args meth c)  : ∀ (n : Nat) (l5 : Int32) (l6 : Int32), f_Pad_runOf_6 h l0 l1 l2 l3 l4 n l5 l6 = some r → ∀ (H : Heap) (locs : List Loc) (ls : Array Slot), RS base D cI cZ s H locs h → lv_has ls 8 [(0, .ref (base + l0)), (1, .int l1), (2, .int l2), (3, .int l3), (4, .int l4), (5, .int l5), (6, .int l6)] → Wg l base D cI cZ 1 21 0 0 h (some (.int r)) p e s m args below meth c H locs 0 0 (F0 m 6 ls []) := by
  have hx := C.1
  have hb := C.2.1
  intro n
  induction n with
  | zero =>
    intro l5 l6 hM
    rw [f_Pad_runOf_6] at hM
    cases hM
  | succ n ih =>
    intro l5 l6 hM H locs ls hS hl
    rw [f_Pad_runOf_6] at hM
    refine lv_iload hx hb d_Pad_runOf_6 (lv_at hl 6 rfl) ?_
    refine lv_iload hx hb d_Pad_runOf_8 (lv_at hl 4 rfl) ?_
    refine lv_icmp_ge (tgt := 47) hx hb d_Pad_runOf_10 (by decide) (fun c10_1 => ?_) (fun c10_1 => ?_)
    · rw [if_pos c10_1] at hM
      refine lv_iload hx hb d_Pad_runOf_47 (lv_at hl 5 rfl) ?_
      obtain rfl := Option.some.inj hM
      exact r_iret C hS d_Pad_runOf_49
    · rw [if_neg c10_1] at hM
      refine lv_aload_n hx hb d_Pad_runOf_13 rfl (lv_at hl 0 rfl) ?_
      refine lv_iload_n hx hb d_Pad_runOf_14 rfl (lv_at hl 1 rfl) ?_
      refine lv_iload hx hb d_Pad_runOf_15 (lv_at hl 6 rfl) ?_
      refine lv_iadd hx hb d_Pad_runOf_17 ?_
      obtain ⟨t1, et1, hM⟩ := bS hM
      refine r_callVi (x := t1) C hS cv_Pad_19 (c_Pad_signAt l base D cI cZ h l0 (l1 + l6) et1) (o_Pad_signAt et1) (rest := []) rfl hl.1 rfl (Nat.le_of_ble_eq_true rfl) ⟨(Nat.le_of_ble_eq_true rfl), (Nat.le_of_ble_eq_true rfl)⟩ ⟨(Nat.le_of_ble_eq_true rfl), (Nat.le_of_ble_eq_true rfl)⟩ d_Pad_runOf_18 (fun H locs hS => ?_)
      refine lv_istore (lv' := [(7, .int t1), (0, .ref (base + l0)), (1, .int l1), (2, .int l2), (3, .int l3), (4, .int l4), (5, .int l5), (6, .int l6)]) hx hb d_Pad_runOf_21 hl (by decide) rfl (fun ls hl => ?_)
      refine lv_iload hx hb d_Pad_runOf_23 (lv_at hl 0 rfl) ?_
      refine lv_iload_n hx hb d_Pad_runOf_25 rfl (lv_at hl 3 rfl) ?_
      refine lv_icmp_lt (tgt := 35) hx hb d_Pad_runOf_26 (by decide) (fun c26_2 => ?_) (fun c26_2 => ?_)
      · rw [if_pos c26_2] at hM
        refine lv_iload hx hb d_Pad_runOf_35 (lv_at hl 6 rfl) ?_
        obtain rfl := Option.some.inj hM
        exact r_iret C hS d_Pad_runOf_37
      · rw [if_neg c26_2] at hM
        refine lv_iload hx hb d_Pad_runOf_29 (lv_at hl 0 rfl) ?_
        refine lv_iload_n hx hb d_Pad_runOf_31 rfl (lv_at hl 4 rfl) ?_
        refine lv_icmp_le (tgt := 38) hx hb d_Pad_runOf_32 (by decide) (fun c32_3 => ?_) (fun c32_3 => ?_)
        · rw [if_pos c32_3] at hM
          refine lv_iinc (v := (l5 + (1 : Int32))) (lv' := [(5, .int (l5 + (1 : Int32))), (7, .int t1), (0, .ref (base + l0)), (1, .int l1), (2, .int l2), (3, .int l3), (4, .int l4), (6, .int l6)]) hx hb d_Pad_runOf_38 hl (k := 6) rfl (by rw [oi_1]) (by decide) rfl (fun ls hl => ?_)
          refine lv_iinc (v := (l6 + (1 : Int32))) (lv' := [(6, .int (l6 + (1 : Int32))), (5, .int (l5 + (1 : Int32))), (7, .int t1), (0, .ref (base + l0)), (1, .int l1), (2, .int l2), (3, .int l3), (4, .int l4)]) hx hb d_Pad_runOf_41 hl (k := 7) rfl (by rw [oi_1]) (by decide) rfl (fun ls hl => ?_)
          refine lv_goto (tgt := 6) hx hb d_Pad_runOf_44 (by decide) ?_
          exact ih (l5 + (1 : Int32)) (l6 + (1 : Int32)) hM _ _ _ hS (lv_sub hl [3, 4, 5, 6, 7, 1, 0] rfl)
        · rw [if_neg c32_3] at hM
          refine lv_iload hx hb d_Pad_runOf_35 (lv_at hl 6 rfl) ?_
          obtain rfl := Option.some.inj hM
          exact r_iret C hS d_Pad_runOf_37
def f_Pad_runOf (h : Hp) (l0 : Nat) (l1 : Int32) (l2 : Int32) (l3 : Int32) (l4 : Int32) : Option Int32 :=
  ck h 4 l0 (
    f_Pad_runOf_6 h l0 l1 l2 l3 l4 FU (0 : Int32) (0 : Int32)
  )
theorem o_Pad_runOf {h : Hp} {l0 : Nat} {l1 : Int32} {l2 : Int32} {l3 : Int32} {l4 : Int32} {r : Int32} (hM : f_Pad_runOf h l0 l1 l2 l3 l4 = some r) : isO h 4 l0 = true := by
  unfold f_Pad_runOf at hM
  exact (ck_some hM).1
set_option maxHeartbeats 4000000 in
set_option maxRecDepth 100000 in
theorem t_Pad_runOf {h : Hp} {l0 : Nat} {l1 : Int32} {l2 : Int32} {l3 : Int32} {l4 : Int32} {r : Int32} (C : Cx base D cI cZ b_Pad_runOf 8 "MovedFolders$Pad" "runOf" (some .int) p s m args meth c) (hM : f_Pad_runOf h l0 l1 l2 l3 l4 = some r) (H : Heap) (locs : List Loc) (ls : Array Slot) (hS : RS base D cI cZ s H locs h) (hl : lv_has ls 8 [(0, .ref (base + l0)), (1, .int l1), (2, .int l2), (3, .int l3), (4, .int l4)]) : Wg l base D cI cZ 1 21 0 0 h (some (.int r)) p e s m args below meth c H locs 0 0 (F0 m 0 ls []) := by
  have hx := C.1
  have hb := C.2.1
  unfold f_Pad_runOf at hM
  replace hM := (ck_some hM).2
  refine lv_iconst (v := (0 : Int32)) hx hb d_Pad_runOf_0 (by decide) ?_
  refine lv_istore (lv' := [(5, .int (0 : Int32)), (0, .ref (base + l0)), (1, .int l1), (2, .int l2), (3, .int l3), (4, .int l4)]) hx hb d_Pad_runOf_1 hl (by decide) rfl (fun ls hl => ?_)
  refine lv_iconst (v := (0 : Int32)) hx hb d_Pad_runOf_3 (by decide) ?_
  refine lv_istore (lv' := [(6, .int (0 : Int32)), (5, .int (0 : Int32)), (0, .ref (base + l0)), (1, .int l1), (2, .int l2), (3, .int l3), (4, .int l4)]) hx hb d_Pad_runOf_4 hl (by decide) rfl (fun ls hl => ?_)
  exact t_Pad_runOf_6  C  FU (0 : Int32) (0 : Int32) hM _ _ _ hS (lv_sub hl [2, 3, 4, 5, 6, 1, 0] rfl)
theorem c_Pad_runOf (l : Launch) (base : Nat) (D : va_G) (cI cZ : ClassId) (h : Hp) (l0 : Nat) (l1 : Int32) (l2 : Int32) (l3 : Int32) (l4 : Int32) {r : Int32} (hM : f_Pad_runOf h l0 l1 l2 l3 l4 = some r) : Ct l base D cI cZ y_Pad_runOf b_Pad_runOf 8 (some .int) 1 21 0 0 h [.ref (base + l0), .int l1, .int l2, .int l3, .int l4] h (some (.int r)) :=
  ct_of (by decide) (Nat.le_of_ble_eq_true rfl) (fun p e s m below meth c ls C hS hl => t_Pad_runOf C hM _ _ _ hS hl)
theorem d_Pad_letters_0 : decode b_Pad_letters 0 = .ok (.aload_n 0, 1) := by decide +kernel
theorem d_Pad_letters_1 : decode b_Pad_letters 1 = .ok (.iconst 0, 1) := by decide +kernel
theorem d_Pad_letters_2 : decode b_Pad_letters 2 = .ok (.bipush 65, 2) := by decide +kernel
theorem d_Pad_letters_4 : decode b_Pad_letters 4 = .ok (.bipush 68, 2) := by decide +kernel
theorem d_Pad_letters_6 : decode b_Pad_letters 6 = .ok (.iconst 3, 1) := by decide +kernel
theorem d_Pad_letters_7 : decode b_Pad_letters 7 = .ok (.invokevirtual 23, 3) := by decide +kernel
theorem d_Pad_letters_10 : decode b_Pad_letters 10 = .ok (.ireturn, 1) := by decide +kernel
def f_Pad_letters (h : Hp) (l0 : Nat) : Option Int32 :=
  ck h 4 l0 (
    (f_Pad_runOf h l0 (0 : Int32) (65 : Int32) (68 : Int32) (3 : Int32)).bind fun t1 =>
    some t1
  )
theorem o_Pad_letters {h : Hp} {l0 : Nat} {r : Int32} (hM : f_Pad_letters h l0 = some r) : isO h 4 l0 = true := by
  unfold f_Pad_letters at hM
  exact (ck_some hM).1
set_option maxHeartbeats 4000000 in
set_option maxRecDepth 100000 in
theorem t_Pad_letters {h : Hp} {l0 : Nat} {r : Int32} (C : Cx base D cI cZ b_Pad_letters 1 "MovedFolders$Pad" "letters" (some .int) p s m args meth c) (hM : f_Pad_letters h l0 = some r) (H : Heap) (locs : List Loc) (ls : Array Slot) (hS : RS base D cI cZ s H locs h) (hl : lv_has ls 1 [(0, .ref (base + l0))]) : Wg l base D cI cZ 2 48 0 0 h (some (.int r)) p e s m args below meth c H locs 0 0 (F0 m 0 ls []) := by
  have hx := C.1
  have hb := C.2.1
  unfold f_Pad_letters at hM
  replace hM := (ck_some hM).2
  refine lv_aload_n hx hb d_Pad_letters_0 rfl (lv_at hl 0 rfl) ?_
  refine lv_iconst (v := (0 : Int32)) hx hb d_Pad_letters_1 (by decide) ?_
  refine lv_bipush (v := (65 : Int32)) hx hb d_Pad_letters_2 (by decide) ?_
  refine lv_bipush (v := (68 : Int32)) hx hb d_Pad_letters_4 (by decide) ?_
  refine lv_iconst (v := (3 : Int32)) hx hb d_Pad_letters_6 (by decide) ?_
  obtain ⟨t1, et1, hM⟩ := bS hM
  refine r_callVi (x := t1) C hS cv_Pad_23 (c_Pad_runOf l base D cI cZ h l0 (0 : Int32) (65 : Int32) (68 : Int32) (3 : Int32) et1) (o_Pad_runOf et1) (rest := []) rfl hl.1 rfl (Nat.le_of_ble_eq_true rfl) ⟨(Nat.le_of_ble_eq_true rfl), (Nat.le_of_ble_eq_true rfl)⟩ ⟨(Nat.le_of_ble_eq_true rfl), (Nat.le_of_ble_eq_true rfl)⟩ d_Pad_letters_7 (fun H locs hS => ?_)
  obtain rfl := Option.some.inj hM
  exact r_iret C hS d_Pad_letters_10
theorem c_Pad_letters (l : Launch) (base : Nat) (D : va_G) (cI cZ : ClassId) (h : Hp) (l0 : Nat) {r : Int32} (hM : f_Pad_letters h l0 = some r) : Ct l base D cI cZ y_Pad_letters b_Pad_letters 1 (some .int) 2 48 0 0 h [.ref (base + l0)] h (some (.int r)) :=
  ct_of (by decide) (Nat.le_of_ble_eq_true rfl) (fun p e s m below meth c ls C hS hl => t_Pad_letters C hM _ _ _ hS hl)
theorem d_Pad_figures_0 : decode b_Pad_figures 0 = .ok (.aload_n 0, 1) := by decide +kernel
theorem d_Pad_figures_1 : decode b_Pad_figures 1 = .ok (.aload_n 0, 1) := by decide +kernel
theorem d_Pad_figures_2 : decode b_Pad_figures 2 = .ok (.invokevirtual 27, 3) := by decide +kernel
theorem d_Pad_figures_5 : decode b_Pad_figures 5 = .ok (.iconst 2, 1) := by decide +kernel
theorem d_Pad_figures_6 : decode b_Pad_figures 6 = .ok (.iadd, 1) := by decide +kernel
theorem d_Pad_figures_7 : decode b_Pad_figures 7 = .ok (.bipush 48, 2) := by decide +kernel
theorem d_Pad_figures_9 : decode b_Pad_figures 9 = .ok (.bipush 57, 2) := by decide +kernel
theorem d_Pad_figures_11 : decode b_Pad_figures 11 = .ok (.bipush 6, 2) := by decide +kernel
theorem d_Pad_figures_13 : decode b_Pad_figures 13 = .ok (.invokevirtual 23, 3) := by decide +kernel
theorem d_Pad_figures_16 : decode b_Pad_figures 16 = .ok (.ireturn, 1) := by decide +kernel
def f_Pad_figures (h : Hp) (l0 : Nat) : Option Int32 :=
  ck h 4 l0 (
    (f_Pad_letters h l0).bind fun t1 =>
    (f_Pad_runOf h l0 (t1 + (2 : Int32)) (48 : Int32) (57 : Int32) (6 : Int32)).bind fun t2 =>
    some t2
  )
theorem o_Pad_figures {h : Hp} {l0 : Nat} {r : Int32} (hM : f_Pad_figures h l0 = some r) : isO h 4 l0 = true := by
  unfold f_Pad_figures at hM
  exact (ck_some hM).1
set_option maxHeartbeats 4000000 in
set_option maxRecDepth 100000 in
theorem t_Pad_figures {h : Hp} {l0 : Nat} {r : Int32} (C : Cx base D cI cZ b_Pad_figures 1 "MovedFolders$Pad" "figures" (some .int) p s m args meth c) (hM : f_Pad_figures h l0 = some r) (H : Heap) (locs : List Loc) (ls : Array Slot) (hS : RS base D cI cZ s H locs h) (hl : lv_has ls 1 [(0, .ref (base + l0))]) : Wg l base D cI cZ 3 68 0 0 h (some (.int r)) p e s m args below meth c H locs 0 0 (F0 m 0 ls []) := by
  have hx := C.1
  have hb := C.2.1
  unfold f_Pad_figures at hM
  replace hM := (ck_some hM).2
  refine lv_aload_n hx hb d_Pad_figures_0 rfl (lv_at hl 0 rfl) ?_
  refine lv_aload_n hx hb d_Pad_figures_1 rfl (lv_at hl 0 rfl) ?_
  obtain ⟨t1, et1, hM⟩ := bS hM
  refine r_callVi (x := t1) C hS cv_Pad_27 (c_Pad_letters l base D cI cZ h l0 et1) (o_Pad_letters et1) (rest := [.ref (base + l0)]) rfl hl.1 rfl (Nat.le_of_ble_eq_true rfl) ⟨(Nat.le_of_ble_eq_true rfl), (Nat.le_of_ble_eq_true rfl)⟩ ⟨(Nat.le_of_ble_eq_true rfl), (Nat.le_of_ble_eq_true rfl)⟩ d_Pad_figures_2 (fun H locs hS => ?_)
  refine lv_iconst (v := (2 : Int32)) hx hb d_Pad_figures_5 (by decide) ?_
  refine lv_iadd hx hb d_Pad_figures_6 ?_
  refine lv_bipush (v := (48 : Int32)) hx hb d_Pad_figures_7 (by decide) ?_
  refine lv_bipush (v := (57 : Int32)) hx hb d_Pad_figures_9 (by decide) ?_
  refine lv_bipush (v := (6 : Int32)) hx hb d_Pad_figures_11 (by decide) ?_
  obtain ⟨t2, et2, hM⟩ := bS hM
  refine r_callVi (x := t2) C hS cv_Pad_23 (c_Pad_runOf l base D cI cZ h l0 (t1 + (2 : Int32)) (48 : Int32) (57 : Int32) (6 : Int32) et2) (o_Pad_runOf et2) (rest := []) rfl hl.1 rfl (Nat.le_of_ble_eq_true rfl) ⟨(Nat.le_of_ble_eq_true rfl), (Nat.le_of_ble_eq_true rfl)⟩ ⟨(Nat.le_of_ble_eq_true rfl), (Nat.le_of_ble_eq_true rfl)⟩ d_Pad_figures_13 (fun H locs hS => ?_)
  obtain rfl := Option.some.inj hM
  exact r_iret C hS d_Pad_figures_16
theorem c_Pad_figures (l : Launch) (base : Nat) (D : va_G) (cI cZ : ClassId) (h : Hp) (l0 : Nat) {r : Int32} (hM : f_Pad_figures h l0 = some r) : Ct l base D cI cZ y_Pad_figures b_Pad_figures 1 (some .int) 3 68 0 0 h [.ref (base + l0)] h (some (.int r)) :=
  ct_of (by decide) (Nat.le_of_ble_eq_true rfl) (fun p e s m below meth c ls C hS hl => t_Pad_figures C hM _ _ _ hS hl)
theorem d_Pad_firstWrong_0 : decode b_Pad_firstWrong 0 = .ok (.aload_n 0, 1) := by decide +kernel
theorem d_Pad_firstWrong_1 : decode b_Pad_firstWrong 1 = .ok (.invokevirtual 27, 3) := by decide +kernel
theorem d_Pad_firstWrong_4 : decode b_Pad_firstWrong 4 = .ok (.istore_n 1, 1) := by decide +kernel
theorem d_Pad_firstWrong_5 : decode b_Pad_firstWrong 5 = .ok (.aload_n 0, 1) := by decide +kernel
theorem d_Pad_firstWrong_6 : decode b_Pad_firstWrong 6 = .ok (.iload_n 1, 1) := by decide +kernel
theorem d_Pad_firstWrong_7 : decode b_Pad_firstWrong 7 = .ok (.invokevirtual 19, 3) := by decide +kernel
theorem d_Pad_firstWrong_10 : decode b_Pad_firstWrong 10 = .ok (.bipush 97, 2) := by decide +kernel
theorem d_Pad_firstWrong_12 : decode b_Pad_firstWrong 12 = .ok (.if_icmp .lt 13, 3) := by decide +kernel
theorem d_Pad_firstWrong_15 : decode b_Pad_firstWrong 15 = .ok (.aload_n 0, 1) := by decide +kernel
theorem d_Pad_firstWrong_16 : decode b_Pad_firstWrong 16 = .ok (.iload_n 1, 1) := by decide +kernel
theorem d_Pad_firstWrong_17 : decode b_Pad_firstWrong 17 = .ok (.invokevirtual 19, 3) := by decide +kernel
theorem d_Pad_firstWrong_20 : decode b_Pad_firstWrong 20 = .ok (.bipush 104, 2) := by decide +kernel
theorem d_Pad_firstWrong_22 : decode b_Pad_firstWrong 22 = .ok (.if_icmp .le 5, 3) := by decide +kernel
theorem d_Pad_firstWrong_25 : decode b_Pad_firstWrong 25 = .ok (.iload_n 1, 1) := by decide +kernel
theorem d_Pad_firstWrong_26 : decode b_Pad_firstWrong 26 = .ok (.ireturn, 1) := by decide +kernel
theorem d_Pad_firstWrong_27 : decode b_Pad_firstWrong 27 = .ok (.aload_n 0, 1) := by decide +kernel
theorem d_Pad_firstWrong_28 : decode b_Pad_firstWrong 28 = .ok (.iload_n 1, 1) := by decide +kernel
theorem d_Pad_firstWrong_29 : decode b_Pad_firstWrong 29 = .ok (.iconst 1, 1) := by decide +kernel
theorem d_Pad_firstWrong_30 : decode b_Pad_firstWrong 30 = .ok (.iadd, 1) := by decide +kernel
theorem d_Pad_firstWrong_31 : decode b_Pad_firstWrong 31 = .ok (.invokevirtual 19, 3) := by decide +kernel
theorem d_Pad_firstWrong_34 : decode b_Pad_firstWrong 34 = .ok (.bipush 61, 2) := by decide +kernel
theorem d_Pad_firstWrong_36 : decode b_Pad_firstWrong 36 = .ok (.if_icmp .eq 7, 3) := by decide +kernel
theorem d_Pad_firstWrong_39 : decode b_Pad_firstWrong 39 = .ok (.iload_n 1, 1) := by decide +kernel
theorem d_Pad_firstWrong_40 : decode b_Pad_firstWrong 40 = .ok (.iconst 1, 1) := by decide +kernel
theorem d_Pad_firstWrong_41 : decode b_Pad_firstWrong 41 = .ok (.iadd, 1) := by decide +kernel
theorem d_Pad_firstWrong_42 : decode b_Pad_firstWrong 42 = .ok (.ireturn, 1) := by decide +kernel
theorem d_Pad_firstWrong_43 : decode b_Pad_firstWrong 43 = .ok (.iload_n 1, 1) := by decide +kernel
theorem d_Pad_firstWrong_44 : decode b_Pad_firstWrong 44 = .ok (.iconst 2, 1) := by decide +kernel
theorem d_Pad_firstWrong_45 : decode b_Pad_firstWrong 45 = .ok (.iadd, 1) := by decide +kernel
theorem d_Pad_firstWrong_46 : decode b_Pad_firstWrong 46 = .ok (.aload_n 0, 1) := by decide +kernel
theorem d_Pad_firstWrong_47 : decode b_Pad_firstWrong 47 = .ok (.invokevirtual 31, 3) := by decide +kernel
theorem d_Pad_firstWrong_50 : decode b_Pad_firstWrong 50 = .ok (.iadd, 1) := by decide +kernel
theorem d_Pad_firstWrong_51 : decode b_Pad_firstWrong 51 = .ok (.istore_n 2, 1) := by decide +kernel
theorem d_Pad_firstWrong_52 : decode b_Pad_firstWrong 52 = .ok (.iload_n 2, 1) := by decide +kernel
theorem d_Pad_firstWrong_53 : decode b_Pad_firstWrong 53 = .ok (.aload_n 0, 1) := by decide +kernel
theorem d_Pad_firstWrong_54 : decode b_Pad_firstWrong 54 = .ok (.getfield 15, 3) := by decide +kernel
theorem d_Pad_firstWrong_57 : decode b_Pad_firstWrong 57 = .ok (.if_icmp .ge 7, 3) := by decide +kernel
theorem d_Pad_firstWrong_60 : decode b_Pad_firstWrong 60 = .ok (.iload_n 2, 1) := by decide +kernel
theorem d_Pad_firstWrong_61 : decode b_Pad_firstWrong 61 = .ok (.goto 5, 3) := by decide +kernel
theorem d_Pad_firstWrong_64 : decode b_Pad_firstWrong 64 = .ok (.bipush (-6), 2) := by decide +kernel
theorem d_Pad_firstWrong_66 : decode b_Pad_firstWrong 66 = .ok (.ireturn, 1) := by decide +kernel
def f_Pad_firstWrong (h : Hp) (l0 : Nat) : Option Int32 :=
  ck h 4 l0 (
    (f_Pad_letters h l0).bind fun t1 =>
    (f_Pad_signAt h l0 t1).bind fun t2 =>
    if t2 < (97 : Int32) then (
      some t1
    ) else (
      (f_Pad_signAt h l0 t1).bind fun t3 =>
      if t3 ≤ (104 : Int32) then (
        (f_Pad_signAt h l0 (t1 + (1 : Int32))).bind fun t4 =>
        if t4 = (61 : Int32) then (
          (f_Pad_figures h l0).bind fun t5 =>
          (gI h 4 l0 1).bind fun t6 =>
          some (if t6 ≤ ((t1 + (2 : Int32)) + t5) then ((-6 : Int32)) else (((t1 + (2 : Int32)) + t5)))
        ) else (
          some (t1 + (1 : Int32))
        )
      ) else (
        some t1
      )
    )
  )
theorem o_Pad_firstWrong {h : Hp} {l0 : Nat} {r : Int32} (hM : f_Pad_firstWrong h l0 = some r) : isO h 4 l0 = true := by
  unfold f_Pad_firstWrong at hM
  exact (ck_some hM).1
set_option maxHeartbeats 4000000 in
set_option maxRecDepth 100000 in
theorem t_Pad_firstWrong {h : Hp} {l0 : Nat} {r : Int32} (C : Cx base D cI cZ b_Pad_firstWrong 3 "MovedFolders$Pad" "firstWrong" (some .int) p s m args meth c) (hM : f_Pad_firstWrong h l0 = some r) (H : Heap) (locs : List Loc) (ls : Array Slot) (hS : RS base D cI cZ s H locs h) (hl : lv_has ls 3 [(0, .ref (base + l0))]) : Wg l base D cI cZ 4 88 0 0 h (some (.int r)) p e s m args below meth c H locs 0 0 (F0 m 0 ls []) := by
  have hx := C.1
  have hb := C.2.1
  unfold f_Pad_firstWrong at hM
  replace hM := (ck_some hM).2
  refine lv_aload_n hx hb d_Pad_firstWrong_0 rfl (lv_at hl 0 rfl) ?_
  obtain ⟨t1, et1, hM⟩ := bS hM
  refine r_callVi (x := t1) C hS cv_Pad_27 (c_Pad_letters l base D cI cZ h l0 et1) (o_Pad_letters et1) (rest := []) rfl hl.1 rfl (Nat.le_of_ble_eq_true rfl) ⟨(Nat.le_of_ble_eq_true rfl), (Nat.le_of_ble_eq_true rfl)⟩ ⟨(Nat.le_of_ble_eq_true rfl), (Nat.le_of_ble_eq_true rfl)⟩ d_Pad_firstWrong_1 (fun H locs hS => ?_)
  refine lv_istore_n (lv' := [(1, .int t1), (0, .ref (base + l0))]) hx hb d_Pad_firstWrong_4 rfl hl (by decide) rfl (fun ls hl => ?_)
  refine lv_aload_n hx hb d_Pad_firstWrong_5 rfl (lv_at hl 1 rfl) ?_
  refine lv_iload_n hx hb d_Pad_firstWrong_6 rfl (lv_at hl 0 rfl) ?_
  obtain ⟨t2, et2, hM⟩ := bS hM
  refine r_callVi (x := t2) C hS cv_Pad_19 (c_Pad_signAt l base D cI cZ h l0 t1 et2) (o_Pad_signAt et2) (rest := []) rfl hl.1 rfl (Nat.le_of_ble_eq_true rfl) ⟨(Nat.le_of_ble_eq_true rfl), (Nat.le_of_ble_eq_true rfl)⟩ ⟨(Nat.le_of_ble_eq_true rfl), (Nat.le_of_ble_eq_true rfl)⟩ d_Pad_firstWrong_7 (fun H locs hS => ?_)
  refine lv_bipush (v := (97 : Int32)) hx hb d_Pad_firstWrong_10 (by decide) ?_
  refine lv_icmp_lt (tgt := 25) hx hb d_Pad_firstWrong_12 (by decide) (fun c12_1 => ?_) (fun c12_1 => ?_)
  · rw [if_pos c12_1] at hM
    refine lv_iload_n hx hb d_Pad_firstWrong_25 rfl (lv_at hl 0 rfl) ?_
    obtain rfl := Option.some.inj hM
    exact r_iret C hS d_Pad_firstWrong_26
  · rw [if_neg c12_1] at hM
    refine lv_aload_n hx hb d_Pad_firstWrong_15 rfl (lv_at hl 1 rfl) ?_
    refine lv_iload_n hx hb d_Pad_firstWrong_16 rfl (lv_at hl 0 rfl) ?_
    obtain ⟨t3, et3, hM⟩ := bS hM
    refine r_callVi (x := t3) C hS cv_Pad_19 (c_Pad_signAt l base D cI cZ h l0 t1 et3) (o_Pad_signAt et3) (rest := []) rfl hl.1 rfl (Nat.le_of_ble_eq_true rfl) ⟨(Nat.le_of_ble_eq_true rfl), (Nat.le_of_ble_eq_true rfl)⟩ ⟨(Nat.le_of_ble_eq_true rfl), (Nat.le_of_ble_eq_true rfl)⟩ d_Pad_firstWrong_17 (fun H locs hS => ?_)
    refine lv_bipush (v := (104 : Int32)) hx hb d_Pad_firstWrong_20 (by decide) ?_
    refine lv_icmp_le (tgt := 27) hx hb d_Pad_firstWrong_22 (by decide) (fun c22_2 => ?_) (fun c22_2 => ?_)
    · rw [if_pos c22_2] at hM
      refine lv_aload_n hx hb d_Pad_firstWrong_27 rfl (lv_at hl 1 rfl) ?_
      refine lv_iload_n hx hb d_Pad_firstWrong_28 rfl (lv_at hl 0 rfl) ?_
      refine lv_iconst (v := (1 : Int32)) hx hb d_Pad_firstWrong_29 (by decide) ?_
      refine lv_iadd hx hb d_Pad_firstWrong_30 ?_
      obtain ⟨t4, et4, hM⟩ := bS hM
      refine r_callVi (x := t4) C hS cv_Pad_19 (c_Pad_signAt l base D cI cZ h l0 (t1 + (1 : Int32)) et4) (o_Pad_signAt et4) (rest := []) rfl hl.1 rfl (Nat.le_of_ble_eq_true rfl) ⟨(Nat.le_of_ble_eq_true rfl), (Nat.le_of_ble_eq_true rfl)⟩ ⟨(Nat.le_of_ble_eq_true rfl), (Nat.le_of_ble_eq_true rfl)⟩ d_Pad_firstWrong_31 (fun H locs hS => ?_)
      refine lv_bipush (v := (61 : Int32)) hx hb d_Pad_firstWrong_34 (by decide) ?_
      refine lv_icmp_eq (tgt := 43) hx hb d_Pad_firstWrong_36 (by decide) (fun c36_3 => ?_) (fun c36_3 => ?_)
      · rw [if_pos c36_3] at hM
        refine lv_iload_n hx hb d_Pad_firstWrong_43 rfl (lv_at hl 0 rfl) ?_
        refine lv_iconst (v := (2 : Int32)) hx hb d_Pad_firstWrong_44 (by decide) ?_
        refine lv_iadd hx hb d_Pad_firstWrong_45 ?_
        refine lv_aload_n hx hb d_Pad_firstWrong_46 rfl (lv_at hl 1 rfl) ?_
        obtain ⟨t5, et5, hM⟩ := bS hM
        refine r_callVi (x := t5) C hS cv_Pad_31 (c_Pad_figures l base D cI cZ h l0 et5) (o_Pad_figures et5) (rest := [.int (t1 + (2 : Int32))]) rfl hl.1 rfl (Nat.le_of_ble_eq_true rfl) ⟨(Nat.le_of_ble_eq_true rfl), (Nat.le_of_ble_eq_true rfl)⟩ ⟨(Nat.le_of_ble_eq_true rfl), (Nat.le_of_ble_eq_true rfl)⟩ d_Pad_firstWrong_47 (fun H locs hS => ?_)
        refine lv_iadd hx hb d_Pad_firstWrong_50 ?_
        refine lv_istore_n (lv' := [(2, .int ((t1 + (2 : Int32)) + t5)), (1, .int t1), (0, .ref (base + l0))]) hx hb d_Pad_firstWrong_51 rfl hl (by decide) rfl (fun ls hl => ?_)
        refine lv_iload_n hx hb d_Pad_firstWrong_52 rfl (lv_at hl 0 rfl) ?_
        refine lv_aload_n hx hb d_Pad_firstWrong_53 rfl (lv_at hl 2 rfl) ?_
        obtain ⟨t6, et6, hM⟩ := bS hM
        refine r_getI C hS fl_Pad_15 et6 d_Pad_firstWrong_54 ?_
        have kJ66_4 : ∀ (H : Heap) (locs : List Loc) (ls : Array Slot), RS base D cI cZ s H locs h → lv_has ls 3 [] → Wg l base D cI cZ 4 88 0 0 h (some (.int r)) p e s m args below meth c H locs 0 0 (F0 m 66 ls [.int (if t6 ≤ ((t1 + (2 : Int32)) + t5) then ((-6 : Int32)) else (((t1 + (2 : Int32)) + t5)))]) := by
          intro H locs ls hS hl
          obtain rfl := Option.some.inj hM
          exact r_iret C hS d_Pad_firstWrong_66
        refine lv_icmp_ge (tgt := 64) hx hb d_Pad_firstWrong_57 (by decide) (fun c57_5 => ?_) (fun c57_5 => ?_)
        · rw [if_pos c57_5] at kJ66_4
          refine lv_bipush (v := (-6 : Int32)) hx hb d_Pad_firstWrong_64 (by decide) ?_
          exact kJ66_4 _ _ _ hS (lv_sub hl [] rfl)
        · rw [if_neg c57_5] at kJ66_4
          refine lv_iload_n hx hb d_Pad_firstWrong_60 rfl (lv_at hl 0 rfl) ?_
          refine lv_goto (tgt := 66) hx hb d_Pad_firstWrong_61 (by decide) ?_
          exact kJ66_4 _ _ _ hS (lv_sub hl [] rfl)
      · rw [if_neg c36_3] at hM
        refine lv_iload_n hx hb d_Pad_firstWrong_39 rfl (lv_at hl 0 rfl) ?_
        refine lv_iconst (v := (1 : Int32)) hx hb d_Pad_firstWrong_40 (by decide) ?_
        refine lv_iadd hx hb d_Pad_firstWrong_41 ?_
        obtain rfl := Option.some.inj hM
        exact r_iret C hS d_Pad_firstWrong_42
    · rw [if_neg c22_2] at hM
      refine lv_iload_n hx hb d_Pad_firstWrong_25 rfl (lv_at hl 0 rfl) ?_
      obtain rfl := Option.some.inj hM
      exact r_iret C hS d_Pad_firstWrong_26
theorem c_Pad_firstWrong (l : Launch) (base : Nat) (D : va_G) (cI cZ : ClassId) (h : Hp) (l0 : Nat) {r : Int32} (hM : f_Pad_firstWrong h l0 = some r) : Ct l base D cI cZ y_Pad_firstWrong b_Pad_firstWrong 3 (some .int) 4 88 0 0 h [.ref (base + l0)] h (some (.int r)) :=
  ct_of (by decide) (Nat.le_of_ble_eq_true rfl) (fun p e s m below meth c ls C hS hl => t_Pad_firstWrong C hM _ _ _ hS hl)
theorem d_Pad_readPath_0 : decode b_Pad_readPath 0 = .ok (.aload_n 0, 1) := by decide +kernel
theorem d_Pad_readPath_1 : decode b_Pad_readPath 1 = .ok (.invokevirtual 27, 3) := by decide +kernel
theorem d_Pad_readPath_4 : decode b_Pad_readPath 4 = .ok (.istore_n 1, 1) := by decide +kernel
theorem d_Pad_readPath_5 : decode b_Pad_readPath 5 = .ok (.iconst 0, 1) := by decide +kernel
theorem d_Pad_readPath_6 : decode b_Pad_readPath 6 = .ok (.istore_n 2, 1) := by decide +kernel
theorem d_Pad_readPath_7 : decode b_Pad_readPath 7 = .ok (.iconst 0, 1) := by decide +kernel
theorem d_Pad_readPath_8 : decode b_Pad_readPath 8 = .ok (.istore_n 3, 1) := by decide +kernel
theorem d_Pad_readPath_9 : decode b_Pad_readPath 9 = .ok (.iload_n 3, 1) := by decide +kernel
theorem d_Pad_readPath_10 : decode b_Pad_readPath 10 = .ok (.iload_n 1, 1) := by decide +kernel
theorem d_Pad_readPath_11 : decode b_Pad_readPath 11 = .ok (.if_icmp .ge 27, 3) := by decide +kernel
theorem d_Pad_readPath_14 : decode b_Pad_readPath 14 = .ok (.iload_n 2, 1) := by decide +kernel
theorem d_Pad_readPath_15 : decode b_Pad_readPath 15 = .ok (.aload_n 0, 1) := by decide +kernel
theorem d_Pad_readPath_16 : decode b_Pad_readPath 16 = .ok (.iload_n 3, 1) := by decide +kernel
theorem d_Pad_readPath_17 : decode b_Pad_readPath 17 = .ok (.invokevirtual 19, 3) := by decide +kernel
theorem d_Pad_readPath_20 : decode b_Pad_readPath 20 = .ok (.bipush 65, 2) := by decide +kernel
theorem d_Pad_readPath_22 : decode b_Pad_readPath 22 = .ok (.isub, 1) := by decide +kernel
theorem d_Pad_readPath_23 : decode b_Pad_readPath 23 = .ok (.iconst 1, 1) := by decide +kernel
theorem d_Pad_readPath_24 : decode b_Pad_readPath 24 = .ok (.iadd, 1) := by decide +kernel
theorem d_Pad_readPath_25 : decode b_Pad_readPath 25 = .ok (.iconst 2, 1) := by decide +kernel
theorem d_Pad_readPath_26 : decode b_Pad_readPath 26 = .ok (.iload_n 3, 1) := by decide +kernel
theorem d_Pad_readPath_27 : decode b_Pad_readPath 27 = .ok (.invokestatic 34, 3) := by decide +kernel
theorem d_Pad_readPath_30 : decode b_Pad_readPath 30 = .ok (.iadd, 1) := by decide +kernel
theorem d_Pad_readPath_31 : decode b_Pad_readPath 31 = .ok (.istore_n 2, 1) := by decide +kernel
theorem d_Pad_readPath_32 : decode b_Pad_readPath 32 = .ok (.iinc 3 1, 3) := by decide +kernel
theorem d_Pad_readPath_35 : decode b_Pad_readPath 35 = .ok (.goto (-26), 3) := by decide +kernel
theorem d_Pad_readPath_38 : decode b_Pad_readPath 38 = .ok (.bipush 10, 2) := by decide +kernel
theorem d_Pad_readPath_40 : decode b_Pad_readPath 40 = .ok (.iload_n 2, 1) := by decide +kernel
theorem d_Pad_readPath_41 : decode b_Pad_readPath 41 = .ok (.imul, 1) := by decide +kernel
theorem d_Pad_readPath_42 : decode b_Pad_readPath 42 = .ok (.aload_n 0, 1) := by decide +kernel
theorem d_Pad_readPath_43 : decode b_Pad_readPath 43 = .ok (.iload_n 1, 1) := by decide +kernel
theorem d_Pad_readPath_44 : decode b_Pad_readPath 44 = .ok (.invokevirtual 19, 3) := by decide +kernel
theorem d_Pad_readPath_47 : decode b_Pad_readPath 47 = .ok (.iadd, 1) := by decide +kernel
theorem d_Pad_readPath_48 : decode b_Pad_readPath 48 = .ok (.bipush 97, 2) := by decide +kernel
theorem d_Pad_readPath_50 : decode b_Pad_readPath 50 = .ok (.isub, 1) := by decide +kernel
theorem d_Pad_readPath_51 : decode b_Pad_readPath 51 = .ok (.ireturn, 1) := by decide +kernel
def f_Pad_readPath_9 (h : Hp) (l0 : Nat) (l1 : Int32) : Nat → Int32 → Int32 → Option Int32
  | 0, _, _ => none
  | n + 1, l2, l3 =>
    if l1 ≤ l3 then (
      (f_Pad_signAt h l0 l1).bind fun t2 =>
      some ((((10 : Int32) * l2) + t2) - (97 : Int32))
    ) else (
      (f_Pad_signAt h l0 l3).bind fun t3 =>
      (f_Letters_shift ((t3 - (65 : Int32)) + (1 : Int32)) (2 : Int32) l3).bind fun t4 =>
      f_Pad_readPath_9 h l0 l1 n (l2 + t4) (l3 + (1 : Int32))
    )
set_option maxHeartbeats 4000000 in
set_option maxRecDepth 100000 in
theorem t_Pad_readPath_9 {h : Hp} {l0 : Nat} {l1 : Int32} {r : Int32} (C : Cx base D cI cZ b_Pad_readPath 4 "MovedFolders$Pad" "readPath" (some .int) p s m args meth c)  : ∀ (n : Nat) (l2 : Int32) (l3 : Int32), f_Pad_readPath_9 h l0 l1 n l2 l3 = some r → ∀ (H : Heap) (locs : List Loc) (ls : Array Slot), RS base D cI cZ s H locs h → lv_has ls 4 [(0, .ref (base + l0)), (1, .int l1), (2, .int l2), (3, .int l3)] → Wg l base D cI cZ 3 68 0 0 h (some (.int r)) p e s m args below meth c H locs 0 0 (F0 m 9 ls []) := by
  have hx := C.1
  have hb := C.2.1
  intro n
  induction n with
  | zero =>
    intro l2 l3 hM
    rw [f_Pad_readPath_9] at hM
    cases hM
  | succ n ih =>
    intro l2 l3 hM H locs ls hS hl
    rw [f_Pad_readPath_9] at hM
    refine lv_iload_n hx hb d_Pad_readPath_9 rfl (lv_at hl 3 rfl) ?_
    refine lv_iload_n hx hb d_Pad_readPath_10 rfl (lv_at hl 1 rfl) ?_
    refine lv_icmp_ge (tgt := 38) hx hb d_Pad_readPath_11 (by decide) (fun c11_1 => ?_) (fun c11_1 => ?_)
    · rw [if_pos c11_1] at hM
      refine lv_bipush (v := (10 : Int32)) hx hb d_Pad_readPath_38 (by decide) ?_
      refine lv_iload_n hx hb d_Pad_readPath_40 rfl (lv_at hl 2 rfl) ?_
      refine lv_imul hx hb d_Pad_readPath_41 ?_
      refine lv_aload_n hx hb d_Pad_readPath_42 rfl (lv_at hl 0 rfl) ?_
      refine lv_iload_n hx hb d_Pad_readPath_43 rfl (lv_at hl 1 rfl) ?_
      obtain ⟨t2, et2, hM⟩ := bS hM
      refine r_callVi (x := t2) C hS cv_Pad_19 (c_Pad_signAt l base D cI cZ h l0 l1 et2) (o_Pad_signAt et2) (rest := [.int ((10 : Int32) * l2)]) rfl hl.1 rfl (Nat.le_of_ble_eq_true rfl) ⟨(Nat.le_of_ble_eq_true rfl), (Nat.le_of_ble_eq_true rfl)⟩ ⟨(Nat.le_of_ble_eq_true rfl), (Nat.le_of_ble_eq_true rfl)⟩ d_Pad_readPath_44 (fun H locs hS => ?_)
      refine lv_iadd hx hb d_Pad_readPath_47 ?_
      refine lv_bipush (v := (97 : Int32)) hx hb d_Pad_readPath_48 (by decide) ?_
      refine lv_isub hx hb d_Pad_readPath_50 ?_
      obtain rfl := Option.some.inj hM
      exact r_iret C hS d_Pad_readPath_51
    · rw [if_neg c11_1] at hM
      refine lv_iload_n hx hb d_Pad_readPath_14 rfl (lv_at hl 2 rfl) ?_
      refine lv_aload_n hx hb d_Pad_readPath_15 rfl (lv_at hl 0 rfl) ?_
      refine lv_iload_n hx hb d_Pad_readPath_16 rfl (lv_at hl 3 rfl) ?_
      obtain ⟨t3, et3, hM⟩ := bS hM
      refine r_callVi (x := t3) C hS cv_Pad_19 (c_Pad_signAt l base D cI cZ h l0 l3 et3) (o_Pad_signAt et3) (rest := [.int l2]) rfl hl.1 rfl (Nat.le_of_ble_eq_true rfl) ⟨(Nat.le_of_ble_eq_true rfl), (Nat.le_of_ble_eq_true rfl)⟩ ⟨(Nat.le_of_ble_eq_true rfl), (Nat.le_of_ble_eq_true rfl)⟩ d_Pad_readPath_17 (fun H locs hS => ?_)
      refine lv_bipush (v := (65 : Int32)) hx hb d_Pad_readPath_20 (by decide) ?_
      refine lv_isub hx hb d_Pad_readPath_22 ?_
      refine lv_iconst (v := (1 : Int32)) hx hb d_Pad_readPath_23 (by decide) ?_
      refine lv_iadd hx hb d_Pad_readPath_24 ?_
      refine lv_iconst (v := (2 : Int32)) hx hb d_Pad_readPath_25 (by decide) ?_
      refine lv_iload_n hx hb d_Pad_readPath_26 rfl (lv_at hl 3 rfl) ?_
      obtain ⟨t4, et4, hM⟩ := bS hM
      refine r_callSi (x := t4) C hS cs_Pad_34 (c_Letters_shift l base D cI cZ h ((t3 - (65 : Int32)) + (1 : Int32)) (2 : Int32) l3 et4) (rest := [.int l2]) rfl hl.1 rfl (Nat.le_of_ble_eq_true rfl) ⟨(Nat.le_of_ble_eq_true rfl), (Nat.le_of_ble_eq_true rfl)⟩ ⟨(Nat.le_of_ble_eq_true rfl), (Nat.le_of_ble_eq_true rfl)⟩ d_Pad_readPath_27 (fun H locs hS => ?_)
      refine lv_iadd hx hb d_Pad_readPath_30 ?_
      refine lv_istore_n (lv' := [(2, .int (l2 + t4)), (0, .ref (base + l0)), (1, .int l1), (3, .int l3)]) hx hb d_Pad_readPath_31 rfl hl (by decide) rfl (fun ls hl => ?_)
      refine lv_iinc (v := (l3 + (1 : Int32))) (lv' := [(3, .int (l3 + (1 : Int32))), (2, .int (l2 + t4)), (0, .ref (base + l0)), (1, .int l1)]) hx hb d_Pad_readPath_32 hl (k := 3) rfl (by rw [oi_1]) (by decide) rfl (fun ls hl => ?_)
      refine lv_goto (tgt := 9) hx hb d_Pad_readPath_35 (by decide) ?_
      exact ih (l2 + t4) (l3 + (1 : Int32)) hM _ _ _ hS (lv_sub hl [2, 3, 1, 0] rfl)
def f_Pad_readPath (h : Hp) (l0 : Nat) : Option Int32 :=
  ck h 4 l0 (
    (f_Pad_letters h l0).bind fun t1 =>
    f_Pad_readPath_9 h l0 t1 FU (0 : Int32) (0 : Int32)
  )
theorem o_Pad_readPath {h : Hp} {l0 : Nat} {r : Int32} (hM : f_Pad_readPath h l0 = some r) : isO h 4 l0 = true := by
  unfold f_Pad_readPath at hM
  exact (ck_some hM).1
set_option maxHeartbeats 4000000 in
set_option maxRecDepth 100000 in
theorem t_Pad_readPath {h : Hp} {l0 : Nat} {r : Int32} (C : Cx base D cI cZ b_Pad_readPath 4 "MovedFolders$Pad" "readPath" (some .int) p s m args meth c) (hM : f_Pad_readPath h l0 = some r) (H : Heap) (locs : List Loc) (ls : Array Slot) (hS : RS base D cI cZ s H locs h) (hl : lv_has ls 4 [(0, .ref (base + l0))]) : Wg l base D cI cZ 3 68 0 0 h (some (.int r)) p e s m args below meth c H locs 0 0 (F0 m 0 ls []) := by
  have hx := C.1
  have hb := C.2.1
  unfold f_Pad_readPath at hM
  replace hM := (ck_some hM).2
  refine lv_aload_n hx hb d_Pad_readPath_0 rfl (lv_at hl 0 rfl) ?_
  obtain ⟨t1, et1, hM⟩ := bS hM
  refine r_callVi (x := t1) C hS cv_Pad_27 (c_Pad_letters l base D cI cZ h l0 et1) (o_Pad_letters et1) (rest := []) rfl hl.1 rfl (Nat.le_of_ble_eq_true rfl) ⟨(Nat.le_of_ble_eq_true rfl), (Nat.le_of_ble_eq_true rfl)⟩ ⟨(Nat.le_of_ble_eq_true rfl), (Nat.le_of_ble_eq_true rfl)⟩ d_Pad_readPath_1 (fun H locs hS => ?_)
  refine lv_istore_n (lv' := [(1, .int t1), (0, .ref (base + l0))]) hx hb d_Pad_readPath_4 rfl hl (by decide) rfl (fun ls hl => ?_)
  refine lv_iconst (v := (0 : Int32)) hx hb d_Pad_readPath_5 (by decide) ?_
  refine lv_istore_n (lv' := [(2, .int (0 : Int32)), (1, .int t1), (0, .ref (base + l0))]) hx hb d_Pad_readPath_6 rfl hl (by decide) rfl (fun ls hl => ?_)
  refine lv_iconst (v := (0 : Int32)) hx hb d_Pad_readPath_7 (by decide) ?_
  refine lv_istore_n (lv' := [(3, .int (0 : Int32)), (2, .int (0 : Int32)), (1, .int t1), (0, .ref (base + l0))]) hx hb d_Pad_readPath_8 rfl hl (by decide) rfl (fun ls hl => ?_)
  exact t_Pad_readPath_9  C  FU (0 : Int32) (0 : Int32) hM _ _ _ hS (lv_sub hl [3, 2, 1, 0] rfl)
theorem c_Pad_readPath (l : Launch) (base : Nat) (D : va_G) (cI cZ : ClassId) (h : Hp) (l0 : Nat) {r : Int32} (hM : f_Pad_readPath h l0 = some r) : Ct l base D cI cZ y_Pad_readPath b_Pad_readPath 4 (some .int) 3 68 0 0 h [.ref (base + l0)] h (some (.int r)) :=
  ct_of (by decide) (Nat.le_of_ble_eq_true rfl) (fun p e s m below meth c ls C hS hl => t_Pad_readPath C hM _ _ _ hS hl)
theorem d_Pad_readContent_0 : decode b_Pad_readContent 0 = .ok (.aload_n 0, 1) := by decide +kernel
theorem d_Pad_readContent_1 : decode b_Pad_readContent 1 = .ok (.invokevirtual 27, 3) := by decide +kernel
theorem d_Pad_readContent_4 : decode b_Pad_readContent 4 = .ok (.iconst 2, 1) := by decide +kernel
theorem d_Pad_readContent_5 : decode b_Pad_readContent 5 = .ok (.iadd, 1) := by decide +kernel
theorem d_Pad_readContent_6 : decode b_Pad_readContent 6 = .ok (.istore_n 1, 1) := by decide +kernel
theorem d_Pad_readContent_7 : decode b_Pad_readContent 7 = .ok (.aload_n 0, 1) := by decide +kernel
theorem d_Pad_readContent_8 : decode b_Pad_readContent 8 = .ok (.invokevirtual 31, 3) := by decide +kernel
theorem d_Pad_readContent_11 : decode b_Pad_readContent 11 = .ok (.istore_n 2, 1) := by decide +kernel
theorem d_Pad_readContent_12 : decode b_Pad_readContent 12 = .ok (.iconst 1, 1) := by decide +kernel
theorem d_Pad_readContent_13 : decode b_Pad_readContent 13 = .ok (.istore_n 3, 1) := by decide +kernel
theorem d_Pad_readContent_14 : decode b_Pad_readContent 14 = .ok (.iconst 0, 1) := by decide +kernel
theorem d_Pad_readContent_15 : decode b_Pad_readContent 15 = .ok (.istore 4, 2) := by decide +kernel
theorem d_Pad_readContent_17 : decode b_Pad_readContent 17 = .ok (.iload 4, 2) := by decide +kernel
theorem d_Pad_readContent_19 : decode b_Pad_readContent 19 = .ok (.iload_n 2, 1) := by decide +kernel
theorem d_Pad_readContent_20 : decode b_Pad_readContent 20 = .ok (.if_icmp .ge 26, 3) := by decide +kernel
theorem d_Pad_readContent_23 : decode b_Pad_readContent 23 = .ok (.bipush 10, 2) := by decide +kernel
theorem d_Pad_readContent_25 : decode b_Pad_readContent 25 = .ok (.iload_n 3, 1) := by decide +kernel
theorem d_Pad_readContent_26 : decode b_Pad_readContent 26 = .ok (.imul, 1) := by decide +kernel
theorem d_Pad_readContent_27 : decode b_Pad_readContent 27 = .ok (.aload_n 0, 1) := by decide +kernel
theorem d_Pad_readContent_28 : decode b_Pad_readContent 28 = .ok (.iload_n 1, 1) := by decide +kernel
theorem d_Pad_readContent_29 : decode b_Pad_readContent 29 = .ok (.iload 4, 2) := by decide +kernel
theorem d_Pad_readContent_31 : decode b_Pad_readContent 31 = .ok (.iadd, 1) := by decide +kernel
theorem d_Pad_readContent_32 : decode b_Pad_readContent 32 = .ok (.invokevirtual 19, 3) := by decide +kernel
theorem d_Pad_readContent_35 : decode b_Pad_readContent 35 = .ok (.iadd, 1) := by decide +kernel
theorem d_Pad_readContent_36 : decode b_Pad_readContent 36 = .ok (.bipush 48, 2) := by decide +kernel
theorem d_Pad_readContent_38 : decode b_Pad_readContent 38 = .ok (.isub, 1) := by decide +kernel
theorem d_Pad_readContent_39 : decode b_Pad_readContent 39 = .ok (.istore_n 3, 1) := by decide +kernel
theorem d_Pad_readContent_40 : decode b_Pad_readContent 40 = .ok (.iinc 4 1, 3) := by decide +kernel
theorem d_Pad_readContent_43 : decode b_Pad_readContent 43 = .ok (.goto (-26), 3) := by decide +kernel
theorem d_Pad_readContent_46 : decode b_Pad_readContent 46 = .ok (.iload_n 3, 1) := by decide +kernel
theorem d_Pad_readContent_47 : decode b_Pad_readContent 47 = .ok (.ireturn, 1) := by decide +kernel
def f_Pad_readContent_17 (h : Hp) (l0 : Nat) (l1 : Int32) (l2 : Int32) : Nat → Int32 → Int32 → Option Int32
  | 0, _, _ => none
  | n + 1, l3, l4 =>
    if l2 ≤ l4 then (
      some l3
    ) else (
      (f_Pad_signAt h l0 (l1 + l4)).bind fun t3 =>
      f_Pad_readContent_17 h l0 l1 l2 n ((((10 : Int32) * l3) + t3) - (48 : Int32)) (l4 + (1 : Int32))
    )
set_option maxHeartbeats 4000000 in
set_option maxRecDepth 100000 in
theorem t_Pad_readContent_17 {h : Hp} {l0 : Nat} {l1 : Int32} {l2 : Int32} {r : Int32} (C : Cx base D cI cZ b_Pad_readContent 5 "MovedFolders$Pad" "readContent" (some .int) p s m args meth c)  : ∀ (n : Nat) (l3 : Int32) (l4 : Int32), f_Pad_readContent_17 h l0 l1 l2 n l3 l4 = some r → ∀ (H : Heap) (locs : List Loc) (ls : Array Slot), RS base D cI cZ s H locs h → lv_has ls 5 [(0, .ref (base + l0)), (1, .int l1), (2, .int l2), (3, .int l3), (4, .int l4)] → Wg l base D cI cZ 4 88 0 0 h (some (.int r)) p e s m args below meth c H locs 0 0 (F0 m 17 ls []) := by
  have hx := C.1
  have hb := C.2.1
  intro n
  induction n with
  | zero =>
    intro l3 l4 hM
    rw [f_Pad_readContent_17] at hM
    cases hM
  | succ n ih =>
    intro l3 l4 hM H locs ls hS hl
    rw [f_Pad_readContent_17] at hM
    refine lv_iload hx hb d_Pad_readContent_17 (lv_at hl 4 rfl) ?_
    refine lv_iload_n hx hb d_Pad_readContent_19 rfl (lv_at hl 2 rfl) ?_
    refine lv_icmp_ge (tgt := 46) hx hb d_Pad_readContent_20 (by decide) (fun c20_1 => ?_) (fun c20_1 => ?_)
    · rw [if_pos c20_1] at hM
      refine lv_iload_n hx hb d_Pad_readContent_46 rfl (lv_at hl 3 rfl) ?_
      obtain rfl := Option.some.inj hM
      exact r_iret C hS d_Pad_readContent_47
    · rw [if_neg c20_1] at hM
      refine lv_bipush (v := (10 : Int32)) hx hb d_Pad_readContent_23 (by decide) ?_
      refine lv_iload_n hx hb d_Pad_readContent_25 rfl (lv_at hl 3 rfl) ?_
      refine lv_imul hx hb d_Pad_readContent_26 ?_
      refine lv_aload_n hx hb d_Pad_readContent_27 rfl (lv_at hl 0 rfl) ?_
      refine lv_iload_n hx hb d_Pad_readContent_28 rfl (lv_at hl 1 rfl) ?_
      refine lv_iload hx hb d_Pad_readContent_29 (lv_at hl 4 rfl) ?_
      refine lv_iadd hx hb d_Pad_readContent_31 ?_
      obtain ⟨t3, et3, hM⟩ := bS hM
      refine r_callVi (x := t3) C hS cv_Pad_19 (c_Pad_signAt l base D cI cZ h l0 (l1 + l4) et3) (o_Pad_signAt et3) (rest := [.int ((10 : Int32) * l3)]) rfl hl.1 rfl (Nat.le_of_ble_eq_true rfl) ⟨(Nat.le_of_ble_eq_true rfl), (Nat.le_of_ble_eq_true rfl)⟩ ⟨(Nat.le_of_ble_eq_true rfl), (Nat.le_of_ble_eq_true rfl)⟩ d_Pad_readContent_32 (fun H locs hS => ?_)
      refine lv_iadd hx hb d_Pad_readContent_35 ?_
      refine lv_bipush (v := (48 : Int32)) hx hb d_Pad_readContent_36 (by decide) ?_
      refine lv_isub hx hb d_Pad_readContent_38 ?_
      refine lv_istore_n (lv' := [(3, .int ((((10 : Int32) * l3) + t3) - (48 : Int32))), (0, .ref (base + l0)), (1, .int l1), (2, .int l2), (4, .int l4)]) hx hb d_Pad_readContent_39 rfl hl (by decide) rfl (fun ls hl => ?_)
      refine lv_iinc (v := (l4 + (1 : Int32))) (lv' := [(4, .int (l4 + (1 : Int32))), (3, .int ((((10 : Int32) * l3) + t3) - (48 : Int32))), (0, .ref (base + l0)), (1, .int l1), (2, .int l2)]) hx hb d_Pad_readContent_40 hl (k := 4) rfl (by rw [oi_1]) (by decide) rfl (fun ls hl => ?_)
      refine lv_goto (tgt := 17) hx hb d_Pad_readContent_43 (by decide) ?_
      exact ih ((((10 : Int32) * l3) + t3) - (48 : Int32)) (l4 + (1 : Int32)) hM _ _ _ hS (lv_sub hl [2, 3, 4, 1, 0] rfl)
def f_Pad_readContent (h : Hp) (l0 : Nat) : Option Int32 :=
  ck h 4 l0 (
    (f_Pad_letters h l0).bind fun t1 =>
    (f_Pad_figures h l0).bind fun t2 =>
    f_Pad_readContent_17 h l0 (t1 + (2 : Int32)) t2 FU (1 : Int32) (0 : Int32)
  )
theorem o_Pad_readContent {h : Hp} {l0 : Nat} {r : Int32} (hM : f_Pad_readContent h l0 = some r) : isO h 4 l0 = true := by
  unfold f_Pad_readContent at hM
  exact (ck_some hM).1
set_option maxHeartbeats 4000000 in
set_option maxRecDepth 100000 in
theorem t_Pad_readContent {h : Hp} {l0 : Nat} {r : Int32} (C : Cx base D cI cZ b_Pad_readContent 5 "MovedFolders$Pad" "readContent" (some .int) p s m args meth c) (hM : f_Pad_readContent h l0 = some r) (H : Heap) (locs : List Loc) (ls : Array Slot) (hS : RS base D cI cZ s H locs h) (hl : lv_has ls 5 [(0, .ref (base + l0))]) : Wg l base D cI cZ 4 88 0 0 h (some (.int r)) p e s m args below meth c H locs 0 0 (F0 m 0 ls []) := by
  have hx := C.1
  have hb := C.2.1
  unfold f_Pad_readContent at hM
  replace hM := (ck_some hM).2
  refine lv_aload_n hx hb d_Pad_readContent_0 rfl (lv_at hl 0 rfl) ?_
  obtain ⟨t1, et1, hM⟩ := bS hM
  refine r_callVi (x := t1) C hS cv_Pad_27 (c_Pad_letters l base D cI cZ h l0 et1) (o_Pad_letters et1) (rest := []) rfl hl.1 rfl (Nat.le_of_ble_eq_true rfl) ⟨(Nat.le_of_ble_eq_true rfl), (Nat.le_of_ble_eq_true rfl)⟩ ⟨(Nat.le_of_ble_eq_true rfl), (Nat.le_of_ble_eq_true rfl)⟩ d_Pad_readContent_1 (fun H locs hS => ?_)
  refine lv_iconst (v := (2 : Int32)) hx hb d_Pad_readContent_4 (by decide) ?_
  refine lv_iadd hx hb d_Pad_readContent_5 ?_
  refine lv_istore_n (lv' := [(1, .int (t1 + (2 : Int32))), (0, .ref (base + l0))]) hx hb d_Pad_readContent_6 rfl hl (by decide) rfl (fun ls hl => ?_)
  refine lv_aload_n hx hb d_Pad_readContent_7 rfl (lv_at hl 1 rfl) ?_
  obtain ⟨t2, et2, hM⟩ := bS hM
  refine r_callVi (x := t2) C hS cv_Pad_31 (c_Pad_figures l base D cI cZ h l0 et2) (o_Pad_figures et2) (rest := []) rfl hl.1 rfl (Nat.le_of_ble_eq_true rfl) ⟨(Nat.le_of_ble_eq_true rfl), (Nat.le_of_ble_eq_true rfl)⟩ ⟨(Nat.le_of_ble_eq_true rfl), (Nat.le_of_ble_eq_true rfl)⟩ d_Pad_readContent_8 (fun H locs hS => ?_)
  refine lv_istore_n (lv' := [(2, .int t2), (1, .int (t1 + (2 : Int32))), (0, .ref (base + l0))]) hx hb d_Pad_readContent_11 rfl hl (by decide) rfl (fun ls hl => ?_)
  refine lv_iconst (v := (1 : Int32)) hx hb d_Pad_readContent_12 (by decide) ?_
  refine lv_istore_n (lv' := [(3, .int (1 : Int32)), (2, .int t2), (1, .int (t1 + (2 : Int32))), (0, .ref (base + l0))]) hx hb d_Pad_readContent_13 rfl hl (by decide) rfl (fun ls hl => ?_)
  refine lv_iconst (v := (0 : Int32)) hx hb d_Pad_readContent_14 (by decide) ?_
  refine lv_istore (lv' := [(4, .int (0 : Int32)), (3, .int (1 : Int32)), (2, .int t2), (1, .int (t1 + (2 : Int32))), (0, .ref (base + l0))]) hx hb d_Pad_readContent_15 hl (by decide) rfl (fun ls hl => ?_)
  exact t_Pad_readContent_17  C  FU (1 : Int32) (0 : Int32) hM _ _ _ hS (lv_sub hl [4, 3, 2, 1, 0] rfl)
theorem c_Pad_readContent (l : Launch) (base : Nat) (D : va_G) (cI cZ : ClassId) (h : Hp) (l0 : Nat) {r : Int32} (hM : f_Pad_readContent h l0 = some r) : Ct l base D cI cZ y_Pad_readContent b_Pad_readContent 5 (some .int) 4 88 0 0 h [.ref (base + l0)] h (some (.int r)) :=
  ct_of (by decide) (Nat.le_of_ble_eq_true rfl) (fun p e s m below meth c ls C hS hl => t_Pad_readContent C hM _ _ _ hS hl)
theorem d_Pairs_init_0 : decode b_Pairs_init 0 = .ok (.aload_n 0, 1) := by decide +kernel
theorem d_Pairs_init_1 : decode b_Pairs_init 1 = .ok (.invokespecial 3, 3) := by decide +kernel
theorem d_Pairs_init_4 : decode b_Pairs_init 4 = .ok (.aload_n 0, 1) := by decide +kernel
theorem d_Pairs_init_5 : decode b_Pairs_init 5 = .ok (.bipush 12, 2) := by decide +kernel
theorem d_Pairs_init_7 : decode b_Pairs_init 7 = .ok (.newarray .int, 2) := by decide +kernel
theorem d_Pairs_init_9 : decode b_Pairs_init 9 = .ok (.putfield 9, 3) := by decide +kernel
theorem d_Pairs_init_12 : decode b_Pairs_init 12 = .ok (.aload_n 0, 1) := by decide +kernel
theorem d_Pairs_init_13 : decode b_Pairs_init 13 = .ok (.bipush 12, 2) := by decide +kernel
theorem d_Pairs_init_15 : decode b_Pairs_init 15 = .ok (.newarray .int, 2) := by decide +kernel
theorem d_Pairs_init_17 : decode b_Pairs_init 17 = .ok (.putfield 15, 3) := by decide +kernel
theorem d_Pairs_init_20 : decode b_Pairs_init 20 = .ok (.aload_n 0, 1) := by decide +kernel
theorem d_Pairs_init_21 : decode b_Pairs_init 21 = .ok (.bipush 12, 2) := by decide +kernel
theorem d_Pairs_init_23 : decode b_Pairs_init 23 = .ok (.newarray .int, 2) := by decide +kernel
theorem d_Pairs_init_25 : decode b_Pairs_init 25 = .ok (.putfield 18, 3) := by decide +kernel
theorem d_Pairs_init_28 : decode b_Pairs_init 28 = .ok (.aload_n 0, 1) := by decide +kernel
theorem d_Pairs_init_29 : decode b_Pairs_init 29 = .ok (.sipush 144, 3) := by decide +kernel
theorem d_Pairs_init_32 : decode b_Pairs_init 32 = .ok (.newarray .int, 2) := by decide +kernel
theorem d_Pairs_init_34 : decode b_Pairs_init 34 = .ok (.putfield 21, 3) := by decide +kernel
theorem d_Pairs_init_37 : decode b_Pairs_init 37 = .ok (.return_, 1) := by decide +kernel
def f_Pairs_init (h : Hp) (l0 : Nat) : Option Hp :=
  ck h 5 l0 (
    (sR (h ++ [.inl (false, 12, fun _ => 0)]) 5 l0 0 h.length).bind fun h1 =>
    (sR (h1 ++ [.inl (false, 12, fun _ => 0)]) 5 l0 1 h1.length).bind fun h2 =>
    (sR (h2 ++ [.inl (false, 12, fun _ => 0)]) 5 l0 2 h2.length).bind fun h3 =>
    (sR (h3 ++ [.inl (false, 144, fun _ => 0)]) 5 l0 3 h3.length).bind fun h4 =>
    some h4
  )
theorem o_Pairs_init {h : Hp} {l0 : Nat} {r : Hp} (hM : f_Pairs_init h l0 = some r) : isO h 5 l0 = true := by
  unfold f_Pairs_init at hM
  exact (ck_some hM).1
set_option maxHeartbeats 4000000 in
set_option maxRecDepth 100000 in
theorem t_Pairs_init {h : Hp} {l0 : Nat} {r : Hp} (C : Cx base D cI cZ b_Pairs_init 1 "MovedFolders$Pairs" "<init>" none p s m args meth c) (hM : f_Pairs_init h l0 = some r) (H : Heap) (locs : List Loc) (ls : Array Slot) (hS : RS base D cI cZ s H locs h) (hl : lv_has ls 1 [(0, .ref (base + l0))]) : Wg l base D cI cZ 1 12 4 180 r none p e s m args below meth c H locs 0 0 (F0 m 0 ls []) := by
  have hx := C.1
  have hb := C.2.1
  unfold f_Pairs_init at hM
  replace hM := (ck_some hM).2
  refine lv_aload_n hx hb d_Pairs_init_0 rfl (lv_at hl 0 rfl) ?_
  refine r_obj C oi_Pairs_3 hl.1 rfl ⟨(Nat.le_of_ble_eq_true rfl), (Nat.le_of_ble_eq_true rfl)⟩ d_Pairs_init_1 ?_
  refine lv_aload_n hx hb d_Pairs_init_4 rfl (lv_at hl 0 rfl) ?_
  refine lv_bipush (v := (12 : Int32)) hx hb d_Pairs_init_5 (by decide) ?_
  refine r_newI (N := 12) C hS ac_int (by decide) (by decide) (Nat.le_of_ble_eq_true rfl) (Nat.le_of_ble_eq_true rfl) (Nat.le_of_ble_eq_true rfl) d_Pairs_init_7 (fun H hS => ?_)
  obtain ⟨h1, eh1, hM⟩ := bS hM
  refine r_putF C hS fp_Pairs_9 (fun q hq => by cases hq; rfl) eh1 rfl rfl d_Pairs_init_9 (fun H locs hS => ?_)
  refine lv_aload_n hx hb d_Pairs_init_12 rfl (lv_at hl 0 rfl) ?_
  refine lv_bipush (v := (12 : Int32)) hx hb d_Pairs_init_13 (by decide) ?_
  refine r_newI (N := 12) C hS ac_int (by decide) (by decide) (Nat.le_of_ble_eq_true rfl) (Nat.le_of_ble_eq_true rfl) (Nat.le_of_ble_eq_true rfl) d_Pairs_init_15 (fun H hS => ?_)
  obtain ⟨h2, eh2, hM⟩ := bS hM
  refine r_putF C hS fp_Pairs_15 (fun q hq => by cases hq; rfl) eh2 rfl rfl d_Pairs_init_17 (fun H locs hS => ?_)
  refine lv_aload_n hx hb d_Pairs_init_20 rfl (lv_at hl 0 rfl) ?_
  refine lv_bipush (v := (12 : Int32)) hx hb d_Pairs_init_21 (by decide) ?_
  refine r_newI (N := 12) C hS ac_int (by decide) (by decide) (Nat.le_of_ble_eq_true rfl) (Nat.le_of_ble_eq_true rfl) (Nat.le_of_ble_eq_true rfl) d_Pairs_init_23 (fun H hS => ?_)
  obtain ⟨h3, eh3, hM⟩ := bS hM
  refine r_putF C hS fp_Pairs_18 (fun q hq => by cases hq; rfl) eh3 rfl rfl d_Pairs_init_25 (fun H locs hS => ?_)
  refine lv_aload_n hx hb d_Pairs_init_28 rfl (lv_at hl 0 rfl) ?_
  refine lv_sipush (v := (144 : Int32)) hx hb d_Pairs_init_29 (by decide) ?_
  refine r_newI (N := 144) C hS ac_int (by decide) (by decide) (Nat.le_of_ble_eq_true rfl) (Nat.le_of_ble_eq_true rfl) (Nat.le_of_ble_eq_true rfl) d_Pairs_init_32 (fun H hS => ?_)
  obtain ⟨h4, eh4, hM⟩ := bS hM
  refine r_putF C hS fp_Pairs_21 (fun q hq => by cases hq; rfl) eh4 rfl rfl d_Pairs_init_34 (fun H locs hS => ?_)
  obtain rfl := Option.some.inj hM
  exact r_vret C hS d_Pairs_init_37
theorem c_Pairs_init (l : Launch) (base : Nat) (D : va_G) (cI cZ : ClassId) (h : Hp) (l0 : Nat) {r : Hp} (hM : f_Pairs_init h l0 = some r) : Ct l base D cI cZ y_Pairs_init b_Pairs_init 1 none 1 12 4 180 h [.ref (base + l0)] r none :=
  ct_of (by decide) (Nat.le_of_ble_eq_true rfl) (fun p e s m below meth c ls C hS hl => t_Pairs_init C hM _ _ _ hS hl)
theorem d_Pairs_wayOf_0 : decode b_Pairs_wayOf 0 = .ok (.iload_n 1, 1) := by decide +kernel
theorem d_Pairs_wayOf_1 : decode b_Pairs_wayOf 1 = .ok (.ifCond .lt 18, 3) := by decide +kernel
theorem d_Pairs_wayOf_4 : decode b_Pairs_wayOf 4 = .ok (.iload_n 1, 1) := by decide +kernel
theorem d_Pairs_wayOf_5 : decode b_Pairs_wayOf 5 = .ok (.bipush 12, 2) := by decide +kernel
theorem d_Pairs_wayOf_7 : decode b_Pairs_wayOf 7 = .ok (.if_icmp .ge 12, 3) := by decide +kernel
theorem d_Pairs_wayOf_10 : decode b_Pairs_wayOf 10 = .ok (.aload_n 0, 1) := by decide +kernel
theorem d_Pairs_wayOf_11 : decode b_Pairs_wayOf 11 = .ok (.getfield 15, 3) := by decide +kernel
theorem d_Pairs_wayOf_14 : decode b_Pairs_wayOf 14 = .ok (.iload_n 1, 1) := by decide +kernel
theorem d_Pairs_wayOf_15 : decode b_Pairs_wayOf 15 = .ok (.iaload, 1) := by decide +kernel
theorem d_Pairs_wayOf_16 : decode b_Pairs_wayOf 16 = .ok (.goto 5, 3) := by decide +kernel
theorem d_Pairs_wayOf_19 : decode b_Pairs_wayOf 19 = .ok (.bipush (-6), 2) := by decide +kernel
theorem d_Pairs_wayOf_21 : decode b_Pairs_wayOf 21 = .ok (.ireturn, 1) := by decide +kernel
def f_Pairs_wayOf (h : Hp) (l0 : Nat) (l1 : Int32) : Option Int32 :=
  ck h 5 l0 (
    (
      if l1 < (0 : Int32) then (
        some (-6 : Int32)
      ) else (
        if (12 : Int32) ≤ l1 then (
          some (-6 : Int32)
        ) else (
          (gR h 5 l0 1).bind fun t2 =>
          (gA h false t2 l1).bind fun t3 =>
          some t3
        )
      )
    ).bind fun t1 =>
    some t1
  )
theorem o_Pairs_wayOf {h : Hp} {l0 : Nat} {l1 : Int32} {r : Int32} (hM : f_Pairs_wayOf h l0 l1 = some r) : isO h 5 l0 = true := by
  unfold f_Pairs_wayOf at hM
  exact (ck_some hM).1
set_option maxHeartbeats 4000000 in
set_option maxRecDepth 100000 in
theorem t_Pairs_wayOf {h : Hp} {l0 : Nat} {l1 : Int32} {r : Int32} (C : Cx base D cI cZ b_Pairs_wayOf 2 "MovedFolders$Pairs" "wayOf" (some .int) p s m args meth c) (hM : f_Pairs_wayOf h l0 l1 = some r) (H : Heap) (locs : List Loc) (ls : Array Slot) (hS : RS base D cI cZ s H locs h) (hl : lv_has ls 2 [(0, .ref (base + l0)), (1, .int l1)]) : Wg l base D cI cZ 0 0 0 0 h (some (.int r)) p e s m args below meth c H locs 0 0 (F0 m 0 ls []) := by
  have hx := C.1
  have hb := C.2.1
  unfold f_Pairs_wayOf at hM
  replace hM := (ck_some hM).2
  refine lv_iload_n hx hb d_Pairs_wayOf_0 rfl (lv_at hl 1 rfl) ?_
  obtain ⟨t1, et1, hM⟩ := bS hM
  have kJ21_1 : ∀ (H : Heap) (locs : List Loc) (ls : Array Slot), RS base D cI cZ s H locs h → lv_has ls 2 [] → Wg l base D cI cZ 0 0 0 0 h (some (.int r)) p e s m args below meth c H locs 0 0 (F0 m 21 ls [.int t1]) := by
    intro H locs ls hS hl
    obtain rfl := Option.some.inj hM
    exact r_iret C hS d_Pairs_wayOf_21
  refine lv_if_lt (tgt := 19) hx hb d_Pairs_wayOf_1 (by decide) (fun c1_2 => ?_) (fun c1_2 => ?_)
  · rw [if_pos c1_2] at et1
    refine lv_bipush (v := (-6 : Int32)) hx hb d_Pairs_wayOf_19 (by decide) ?_
    obtain rfl := Option.some.inj et1
    exact kJ21_1 _ _ _ hS (lv_sub hl [] rfl)
  · rw [if_neg c1_2] at et1
    refine lv_iload_n hx hb d_Pairs_wayOf_4 rfl (lv_at hl 1 rfl) ?_
    refine lv_bipush (v := (12 : Int32)) hx hb d_Pairs_wayOf_5 (by decide) ?_
    refine lv_icmp_ge (tgt := 19) hx hb d_Pairs_wayOf_7 (by decide) (fun c7_3 => ?_) (fun c7_3 => ?_)
    · rw [if_pos c7_3] at et1
      refine lv_bipush (v := (-6 : Int32)) hx hb d_Pairs_wayOf_19 (by decide) ?_
      obtain rfl := Option.some.inj et1
      exact kJ21_1 _ _ _ hS (lv_sub hl [] rfl)
    · rw [if_neg c7_3] at et1
      refine lv_aload_n hx hb d_Pairs_wayOf_10 rfl (lv_at hl 0 rfl) ?_
      obtain ⟨t2, et2, et1⟩ := bS et1
      refine r_getR C hS fl_Pairs_15 et2 d_Pairs_wayOf_11 ?_
      refine lv_iload_n hx hb d_Pairs_wayOf_14 rfl (lv_at hl 1 rfl) ?_
      obtain ⟨t3, et3, et1⟩ := bS et1
      refine r_iald C hS et3 d_Pairs_wayOf_15 ?_
      refine lv_goto (tgt := 21) hx hb d_Pairs_wayOf_16 (by decide) ?_
      obtain rfl := Option.some.inj et1
      exact kJ21_1 _ _ _ hS (lv_sub hl [] rfl)
theorem c_Pairs_wayOf (l : Launch) (base : Nat) (D : va_G) (cI cZ : ClassId) (h : Hp) (l0 : Nat) (l1 : Int32) {r : Int32} (hM : f_Pairs_wayOf h l0 l1 = some r) : Ct l base D cI cZ y_Pairs_wayOf b_Pairs_wayOf 2 (some .int) 0 0 0 0 h [.ref (base + l0), .int l1] h (some (.int r)) :=
  ct_of (by decide) (Nat.le_of_ble_eq_true rfl) (fun p e s m below meth c ls C hS hl => t_Pairs_wayOf C hM _ _ _ hS hl)
theorem d_Pairs_countGone_0 : decode b_Pairs_countGone 0 = .ok (.iconst 0, 1) := by decide +kernel
theorem d_Pairs_countGone_1 : decode b_Pairs_countGone 1 = .ok (.istore_n 2, 1) := by decide +kernel
theorem d_Pairs_countGone_2 : decode b_Pairs_countGone 2 = .ok (.iconst 0, 1) := by decide +kernel
theorem d_Pairs_countGone_3 : decode b_Pairs_countGone 3 = .ok (.istore_n 3, 1) := by decide +kernel
theorem d_Pairs_countGone_4 : decode b_Pairs_countGone 4 = .ok (.iload_n 3, 1) := by decide +kernel
theorem d_Pairs_countGone_5 : decode b_Pairs_countGone 5 = .ok (.aload_n 1, 1) := by decide +kernel
theorem d_Pairs_countGone_6 : decode b_Pairs_countGone 6 = .ok (.invokevirtual 24, 3) := by decide +kernel
theorem d_Pairs_countGone_9 : decode b_Pairs_countGone 9 = .ok (.if_icmp .ge 27, 3) := by decide +kernel
theorem d_Pairs_countGone_12 : decode b_Pairs_countGone 12 = .ok (.iload_n 2, 1) := by decide +kernel
theorem d_Pairs_countGone_13 : decode b_Pairs_countGone 13 = .ok (.aload_n 0, 1) := by decide +kernel
theorem d_Pairs_countGone_14 : decode b_Pairs_countGone 14 = .ok (.iload_n 3, 1) := by decide +kernel
theorem d_Pairs_countGone_15 : decode b_Pairs_countGone 15 = .ok (.invokevirtual 30, 3) := by decide +kernel
theorem d_Pairs_countGone_18 : decode b_Pairs_countGone 18 = .ok (.bipush (-6), 2) := by decide +kernel
theorem d_Pairs_countGone_20 : decode b_Pairs_countGone 20 = .ok (.if_icmp .ne 7, 3) := by decide +kernel
theorem d_Pairs_countGone_23 : decode b_Pairs_countGone 23 = .ok (.iconst 1, 1) := by decide +kernel
theorem d_Pairs_countGone_24 : decode b_Pairs_countGone 24 = .ok (.goto 4, 3) := by decide +kernel
theorem d_Pairs_countGone_27 : decode b_Pairs_countGone 27 = .ok (.iconst 0, 1) := by decide +kernel
theorem d_Pairs_countGone_28 : decode b_Pairs_countGone 28 = .ok (.iadd, 1) := by decide +kernel
theorem d_Pairs_countGone_29 : decode b_Pairs_countGone 29 = .ok (.istore_n 2, 1) := by decide +kernel
theorem d_Pairs_countGone_30 : decode b_Pairs_countGone 30 = .ok (.iinc 3 1, 3) := by decide +kernel
theorem d_Pairs_countGone_33 : decode b_Pairs_countGone 33 = .ok (.goto (-29), 3) := by decide +kernel
theorem d_Pairs_countGone_36 : decode b_Pairs_countGone 36 = .ok (.iload_n 2, 1) := by decide +kernel
theorem d_Pairs_countGone_37 : decode b_Pairs_countGone 37 = .ok (.ireturn, 1) := by decide +kernel
def f_Pairs_countGone_4 (h : Hp) (l0 : Nat) (l1 : Nat) : Nat → Int32 → Int32 → Option Int32
  | 0, _, _ => none
  | n + 1, l2, l3 =>
    (f_Tree_size h l1).bind fun t1 =>
    if t1 ≤ l3 then (
      some l2
    ) else (
      (f_Pairs_mateOf h l0 l3).bind fun t2 =>
      f_Pairs_countGone_4 h l0 l1 n (l2 + (if t2 = (-6 : Int32) then ((1 : Int32)) else ((0 : Int32)))) (l3 + (1 : Int32))
    )
set_option maxHeartbeats 4000000 in
set_option maxRecDepth 100000 in
theorem t_Pairs_countGone_4 {h : Hp} {l0 : Nat} {l1 : Nat} {r : Int32} (C : Cx base D cI cZ b_Pairs_countGone 4 "MovedFolders$Pairs" "countGone" (some .int) p s m args meth c)  : ∀ (n : Nat) (l2 : Int32) (l3 : Int32), f_Pairs_countGone_4 h l0 l1 n l2 l3 = some r → ∀ (H : Heap) (locs : List Loc) (ls : Array Slot), RS base D cI cZ s H locs h → lv_has ls 4 [(0, .ref (base + l0)), (1, .ref (base + l1)), (2, .int l2), (3, .int l3)] → Wg l base D cI cZ 1 21 0 0 h (some (.int r)) p e s m args below meth c H locs 0 0 (F0 m 4 ls []) := by
  have hx := C.1
  have hb := C.2.1
  intro n
  induction n with
  | zero =>
    intro l2 l3 hM
    rw [f_Pairs_countGone_4] at hM
    cases hM
  | succ n ih =>
    intro l2 l3 hM H locs ls hS hl
    rw [f_Pairs_countGone_4] at hM
    refine lv_iload_n hx hb d_Pairs_countGone_4 rfl (lv_at hl 3 rfl) ?_
    refine lv_aload_n hx hb d_Pairs_countGone_5 rfl (lv_at hl 1 rfl) ?_
    obtain ⟨t1, et1, hM⟩ := bS hM
    refine r_callVi (x := t1) C hS cv_Pairs_24 (c_Tree_size l base D cI cZ h l1 et1) (o_Tree_size et1) (rest := [.int l3]) rfl hl.1 rfl (Nat.le_of_ble_eq_true rfl) ⟨(Nat.le_of_ble_eq_true rfl), (Nat.le_of_ble_eq_true rfl)⟩ ⟨(Nat.le_of_ble_eq_true rfl), (Nat.le_of_ble_eq_true rfl)⟩ d_Pairs_countGone_6 (fun H locs hS => ?_)
    refine lv_icmp_ge (tgt := 36) hx hb d_Pairs_countGone_9 (by decide) (fun c9_1 => ?_) (fun c9_1 => ?_)
    · rw [if_pos c9_1] at hM
      refine lv_iload_n hx hb d_Pairs_countGone_36 rfl (lv_at hl 2 rfl) ?_
      obtain rfl := Option.some.inj hM
      exact r_iret C hS d_Pairs_countGone_37
    · rw [if_neg c9_1] at hM
      refine lv_iload_n hx hb d_Pairs_countGone_12 rfl (lv_at hl 2 rfl) ?_
      refine lv_aload_n hx hb d_Pairs_countGone_13 rfl (lv_at hl 0 rfl) ?_
      refine lv_iload_n hx hb d_Pairs_countGone_14 rfl (lv_at hl 3 rfl) ?_
      obtain ⟨t2, et2, hM⟩ := bS hM
      refine r_callVi (x := t2) C hS cv_Pairs_30 (c_Pairs_mateOf l base D cI cZ h l0 l3 et2) (o_Pairs_mateOf et2) (rest := [.int l2]) rfl hl.1 rfl (Nat.le_of_ble_eq_true rfl) ⟨(Nat.le_of_ble_eq_true rfl), (Nat.le_of_ble_eq_true rfl)⟩ ⟨(Nat.le_of_ble_eq_true rfl), (Nat.le_of_ble_eq_true rfl)⟩ d_Pairs_countGone_15 (fun H locs hS => ?_)
      refine lv_bipush (v := (-6 : Int32)) hx hb d_Pairs_countGone_18 (by decide) ?_
      have kJ28_2 : ∀ (H : Heap) (locs : List Loc) (ls : Array Slot), RS base D cI cZ s H locs h → lv_has ls 4 [(0, .ref (base + l0)), (1, .ref (base + l1)), (3, .int l3)] → Wg l base D cI cZ 1 21 0 0 h (some (.int r)) p e s m args below meth c H locs 0 0 (F0 m 28 ls [.int (if t2 = (-6 : Int32) then ((1 : Int32)) else ((0 : Int32))), .int l2]) := by
        intro H locs ls hS hl
        refine lv_iadd hx hb d_Pairs_countGone_28 ?_
        refine lv_istore_n (lv' := [(2, .int (l2 + (if t2 = (-6 : Int32) then ((1 : Int32)) else ((0 : Int32))))), (0, .ref (base + l0)), (1, .ref (base + l1)), (3, .int l3)]) hx hb d_Pairs_countGone_29 rfl hl (by decide) rfl (fun ls hl => ?_)
        refine lv_iinc (v := (l3 + (1 : Int32))) (lv' := [(3, .int (l3 + (1 : Int32))), (2, .int (l2 + (if t2 = (-6 : Int32) then ((1 : Int32)) else ((0 : Int32))))), (0, .ref (base + l0)), (1, .ref (base + l1))]) hx hb d_Pairs_countGone_30 hl (k := 3) rfl (by rw [oi_1]) (by decide) rfl (fun ls hl => ?_)
        refine lv_goto (tgt := 4) hx hb d_Pairs_countGone_33 (by decide) ?_
        exact ih (l2 + (if t2 = (-6 : Int32) then ((1 : Int32)) else ((0 : Int32)))) (l3 + (1 : Int32)) hM _ _ _ hS (lv_sub hl [2, 3, 1, 0] rfl)
      refine lv_icmp_ne (tgt := 27) hx hb d_Pairs_countGone_20 (by decide) (fun c20_3 => ?_) (fun c20_3 => ?_)
      · rw [if_neg c20_3] at kJ28_2
        refine lv_iconst (v := (0 : Int32)) hx hb d_Pairs_countGone_27 (by decide) ?_
        exact kJ28_2 _ _ _ hS (lv_sub hl [0, 1, 3] rfl)
      · rw [if_pos c20_3] at kJ28_2
        refine lv_iconst (v := (1 : Int32)) hx hb d_Pairs_countGone_23 (by decide) ?_
        refine lv_goto (tgt := 28) hx hb d_Pairs_countGone_24 (by decide) ?_
        exact kJ28_2 _ _ _ hS (lv_sub hl [0, 1, 3] rfl)
def f_Pairs_countGone (h : Hp) (l0 : Nat) (l1 : Nat) : Option Int32 :=
  ck h 5 l0 (
    f_Pairs_countGone_4 h l0 l1 FU (0 : Int32) (0 : Int32)
  )
theorem o_Pairs_countGone {h : Hp} {l0 : Nat} {l1 : Nat} {r : Int32} (hM : f_Pairs_countGone h l0 l1 = some r) : isO h 5 l0 = true := by
  unfold f_Pairs_countGone at hM
  exact (ck_some hM).1
set_option maxHeartbeats 4000000 in
set_option maxRecDepth 100000 in
theorem t_Pairs_countGone {h : Hp} {l0 : Nat} {l1 : Nat} {r : Int32} (C : Cx base D cI cZ b_Pairs_countGone 4 "MovedFolders$Pairs" "countGone" (some .int) p s m args meth c) (hM : f_Pairs_countGone h l0 l1 = some r) (H : Heap) (locs : List Loc) (ls : Array Slot) (hS : RS base D cI cZ s H locs h) (hl : lv_has ls 4 [(0, .ref (base + l0)), (1, .ref (base + l1))]) : Wg l base D cI cZ 1 21 0 0 h (some (.int r)) p e s m args below meth c H locs 0 0 (F0 m 0 ls []) := by
  have hx := C.1
  have hb := C.2.1
  unfold f_Pairs_countGone at hM
  replace hM := (ck_some hM).2
  refine lv_iconst (v := (0 : Int32)) hx hb d_Pairs_countGone_0 (by decide) ?_
  refine lv_istore_n (lv' := [(2, .int (0 : Int32)), (0, .ref (base + l0)), (1, .ref (base + l1))]) hx hb d_Pairs_countGone_1 rfl hl (by decide) rfl (fun ls hl => ?_)
  refine lv_iconst (v := (0 : Int32)) hx hb d_Pairs_countGone_2 (by decide) ?_
  refine lv_istore_n (lv' := [(3, .int (0 : Int32)), (2, .int (0 : Int32)), (0, .ref (base + l0)), (1, .ref (base + l1))]) hx hb d_Pairs_countGone_3 rfl hl (by decide) rfl (fun ls hl => ?_)
  exact t_Pairs_countGone_4  C  FU (0 : Int32) (0 : Int32) hM _ _ _ hS (lv_sub hl [2, 3, 1, 0] rfl)
theorem c_Pairs_countGone (l : Launch) (base : Nat) (D : va_G) (cI cZ : ClassId) (h : Hp) (l0 : Nat) (l1 : Nat) {r : Int32} (hM : f_Pairs_countGone h l0 l1 = some r) : Ct l base D cI cZ y_Pairs_countGone b_Pairs_countGone 4 (some .int) 1 21 0 0 h [.ref (base + l0), .ref (base + l1)] h (some (.int r)) :=
  ct_of (by decide) (Nat.le_of_ble_eq_true rfl) (fun p e s m below meth c ls C hS hl => t_Pairs_countGone C hM _ _ _ hS hl)
theorem d_Pairs_countNew_0 : decode b_Pairs_countNew 0 = .ok (.iconst 0, 1) := by decide +kernel
theorem d_Pairs_countNew_1 : decode b_Pairs_countNew 1 = .ok (.istore_n 2, 1) := by decide +kernel
theorem d_Pairs_countNew_2 : decode b_Pairs_countNew 2 = .ok (.iconst 0, 1) := by decide +kernel
theorem d_Pairs_countNew_3 : decode b_Pairs_countNew 3 = .ok (.istore_n 3, 1) := by decide +kernel
theorem d_Pairs_countNew_4 : decode b_Pairs_countNew 4 = .ok (.iload_n 3, 1) := by decide +kernel
theorem d_Pairs_countNew_5 : decode b_Pairs_countNew 5 = .ok (.aload_n 1, 1) := by decide +kernel
theorem d_Pairs_countNew_6 : decode b_Pairs_countNew 6 = .ok (.invokevirtual 24, 3) := by decide +kernel
theorem d_Pairs_countNew_9 : decode b_Pairs_countNew 9 = .ok (.if_icmp .ge 27, 3) := by decide +kernel
theorem d_Pairs_countNew_12 : decode b_Pairs_countNew 12 = .ok (.iload_n 2, 1) := by decide +kernel
theorem d_Pairs_countNew_13 : decode b_Pairs_countNew 13 = .ok (.aload_n 0, 1) := by decide +kernel
theorem d_Pairs_countNew_14 : decode b_Pairs_countNew 14 = .ok (.iload_n 3, 1) := by decide +kernel
theorem d_Pairs_countNew_15 : decode b_Pairs_countNew 15 = .ok (.invokevirtual 34, 3) := by decide +kernel
theorem d_Pairs_countNew_18 : decode b_Pairs_countNew 18 = .ok (.bipush (-6), 2) := by decide +kernel
theorem d_Pairs_countNew_20 : decode b_Pairs_countNew 20 = .ok (.if_icmp .ne 7, 3) := by decide +kernel
theorem d_Pairs_countNew_23 : decode b_Pairs_countNew 23 = .ok (.iconst 1, 1) := by decide +kernel
theorem d_Pairs_countNew_24 : decode b_Pairs_countNew 24 = .ok (.goto 4, 3) := by decide +kernel
theorem d_Pairs_countNew_27 : decode b_Pairs_countNew 27 = .ok (.iconst 0, 1) := by decide +kernel
theorem d_Pairs_countNew_28 : decode b_Pairs_countNew 28 = .ok (.iadd, 1) := by decide +kernel
theorem d_Pairs_countNew_29 : decode b_Pairs_countNew 29 = .ok (.istore_n 2, 1) := by decide +kernel
theorem d_Pairs_countNew_30 : decode b_Pairs_countNew 30 = .ok (.iinc 3 1, 3) := by decide +kernel
theorem d_Pairs_countNew_33 : decode b_Pairs_countNew 33 = .ok (.goto (-29), 3) := by decide +kernel
theorem d_Pairs_countNew_36 : decode b_Pairs_countNew 36 = .ok (.iload_n 2, 1) := by decide +kernel
theorem d_Pairs_countNew_37 : decode b_Pairs_countNew 37 = .ok (.ireturn, 1) := by decide +kernel
def f_Pairs_countNew_4 (h : Hp) (l0 : Nat) (l1 : Nat) : Nat → Int32 → Int32 → Option Int32
  | 0, _, _ => none
  | n + 1, l2, l3 =>
    (f_Tree_size h l1).bind fun t1 =>
    if t1 ≤ l3 then (
      some l2
    ) else (
      (f_Pairs_sourceOf h l0 l3).bind fun t2 =>
      f_Pairs_countNew_4 h l0 l1 n (l2 + (if t2 = (-6 : Int32) then ((1 : Int32)) else ((0 : Int32)))) (l3 + (1 : Int32))
    )
set_option maxHeartbeats 4000000 in
set_option maxRecDepth 100000 in
theorem t_Pairs_countNew_4 {h : Hp} {l0 : Nat} {l1 : Nat} {r : Int32} (C : Cx base D cI cZ b_Pairs_countNew 4 "MovedFolders$Pairs" "countNew" (some .int) p s m args meth c)  : ∀ (n : Nat) (l2 : Int32) (l3 : Int32), f_Pairs_countNew_4 h l0 l1 n l2 l3 = some r → ∀ (H : Heap) (locs : List Loc) (ls : Array Slot), RS base D cI cZ s H locs h → lv_has ls 4 [(0, .ref (base + l0)), (1, .ref (base + l1)), (2, .int l2), (3, .int l3)] → Wg l base D cI cZ 1 21 0 0 h (some (.int r)) p e s m args below meth c H locs 0 0 (F0 m 4 ls []) := by
  have hx := C.1
  have hb := C.2.1
  intro n
  induction n with
  | zero =>
    intro l2 l3 hM
    rw [f_Pairs_countNew_4] at hM
    cases hM
  | succ n ih =>
    intro l2 l3 hM H locs ls hS hl
    rw [f_Pairs_countNew_4] at hM
    refine lv_iload_n hx hb d_Pairs_countNew_4 rfl (lv_at hl 3 rfl) ?_
    refine lv_aload_n hx hb d_Pairs_countNew_5 rfl (lv_at hl 1 rfl) ?_
    obtain ⟨t1, et1, hM⟩ := bS hM
    refine r_callVi (x := t1) C hS cv_Pairs_24 (c_Tree_size l base D cI cZ h l1 et1) (o_Tree_size et1) (rest := [.int l3]) rfl hl.1 rfl (Nat.le_of_ble_eq_true rfl) ⟨(Nat.le_of_ble_eq_true rfl), (Nat.le_of_ble_eq_true rfl)⟩ ⟨(Nat.le_of_ble_eq_true rfl), (Nat.le_of_ble_eq_true rfl)⟩ d_Pairs_countNew_6 (fun H locs hS => ?_)
    refine lv_icmp_ge (tgt := 36) hx hb d_Pairs_countNew_9 (by decide) (fun c9_1 => ?_) (fun c9_1 => ?_)
    · rw [if_pos c9_1] at hM
      refine lv_iload_n hx hb d_Pairs_countNew_36 rfl (lv_at hl 2 rfl) ?_
      obtain rfl := Option.some.inj hM
      exact r_iret C hS d_Pairs_countNew_37
    · rw [if_neg c9_1] at hM
      refine lv_iload_n hx hb d_Pairs_countNew_12 rfl (lv_at hl 2 rfl) ?_
      refine lv_aload_n hx hb d_Pairs_countNew_13 rfl (lv_at hl 0 rfl) ?_
      refine lv_iload_n hx hb d_Pairs_countNew_14 rfl (lv_at hl 3 rfl) ?_
      obtain ⟨t2, et2, hM⟩ := bS hM
      refine r_callVi (x := t2) C hS cv_Pairs_34 (c_Pairs_sourceOf l base D cI cZ h l0 l3 et2) (o_Pairs_sourceOf et2) (rest := [.int l2]) rfl hl.1 rfl (Nat.le_of_ble_eq_true rfl) ⟨(Nat.le_of_ble_eq_true rfl), (Nat.le_of_ble_eq_true rfl)⟩ ⟨(Nat.le_of_ble_eq_true rfl), (Nat.le_of_ble_eq_true rfl)⟩ d_Pairs_countNew_15 (fun H locs hS => ?_)
      refine lv_bipush (v := (-6 : Int32)) hx hb d_Pairs_countNew_18 (by decide) ?_
      have kJ28_2 : ∀ (H : Heap) (locs : List Loc) (ls : Array Slot), RS base D cI cZ s H locs h → lv_has ls 4 [(0, .ref (base + l0)), (1, .ref (base + l1)), (3, .int l3)] → Wg l base D cI cZ 1 21 0 0 h (some (.int r)) p e s m args below meth c H locs 0 0 (F0 m 28 ls [.int (if t2 = (-6 : Int32) then ((1 : Int32)) else ((0 : Int32))), .int l2]) := by
        intro H locs ls hS hl
        refine lv_iadd hx hb d_Pairs_countNew_28 ?_
        refine lv_istore_n (lv' := [(2, .int (l2 + (if t2 = (-6 : Int32) then ((1 : Int32)) else ((0 : Int32))))), (0, .ref (base + l0)), (1, .ref (base + l1)), (3, .int l3)]) hx hb d_Pairs_countNew_29 rfl hl (by decide) rfl (fun ls hl => ?_)
        refine lv_iinc (v := (l3 + (1 : Int32))) (lv' := [(3, .int (l3 + (1 : Int32))), (2, .int (l2 + (if t2 = (-6 : Int32) then ((1 : Int32)) else ((0 : Int32))))), (0, .ref (base + l0)), (1, .ref (base + l1))]) hx hb d_Pairs_countNew_30 hl (k := 3) rfl (by rw [oi_1]) (by decide) rfl (fun ls hl => ?_)
        refine lv_goto (tgt := 4) hx hb d_Pairs_countNew_33 (by decide) ?_
        exact ih (l2 + (if t2 = (-6 : Int32) then ((1 : Int32)) else ((0 : Int32)))) (l3 + (1 : Int32)) hM _ _ _ hS (lv_sub hl [2, 3, 1, 0] rfl)
      refine lv_icmp_ne (tgt := 27) hx hb d_Pairs_countNew_20 (by decide) (fun c20_3 => ?_) (fun c20_3 => ?_)
      · rw [if_neg c20_3] at kJ28_2
        refine lv_iconst (v := (0 : Int32)) hx hb d_Pairs_countNew_27 (by decide) ?_
        exact kJ28_2 _ _ _ hS (lv_sub hl [0, 1, 3] rfl)
      · rw [if_pos c20_3] at kJ28_2
        refine lv_iconst (v := (1 : Int32)) hx hb d_Pairs_countNew_23 (by decide) ?_
        refine lv_goto (tgt := 28) hx hb d_Pairs_countNew_24 (by decide) ?_
        exact kJ28_2 _ _ _ hS (lv_sub hl [0, 1, 3] rfl)
def f_Pairs_countNew (h : Hp) (l0 : Nat) (l1 : Nat) : Option Int32 :=
  ck h 5 l0 (
    f_Pairs_countNew_4 h l0 l1 FU (0 : Int32) (0 : Int32)
  )
theorem o_Pairs_countNew {h : Hp} {l0 : Nat} {l1 : Nat} {r : Int32} (hM : f_Pairs_countNew h l0 l1 = some r) : isO h 5 l0 = true := by
  unfold f_Pairs_countNew at hM
  exact (ck_some hM).1
set_option maxHeartbeats 4000000 in
set_option maxRecDepth 100000 in
theorem t_Pairs_countNew {h : Hp} {l0 : Nat} {l1 : Nat} {r : Int32} (C : Cx base D cI cZ b_Pairs_countNew 4 "MovedFolders$Pairs" "countNew" (some .int) p s m args meth c) (hM : f_Pairs_countNew h l0 l1 = some r) (H : Heap) (locs : List Loc) (ls : Array Slot) (hS : RS base D cI cZ s H locs h) (hl : lv_has ls 4 [(0, .ref (base + l0)), (1, .ref (base + l1))]) : Wg l base D cI cZ 1 21 0 0 h (some (.int r)) p e s m args below meth c H locs 0 0 (F0 m 0 ls []) := by
  have hx := C.1
  have hb := C.2.1
  unfold f_Pairs_countNew at hM
  replace hM := (ck_some hM).2
  refine lv_iconst (v := (0 : Int32)) hx hb d_Pairs_countNew_0 (by decide) ?_
  refine lv_istore_n (lv' := [(2, .int (0 : Int32)), (0, .ref (base + l0)), (1, .ref (base + l1))]) hx hb d_Pairs_countNew_1 rfl hl (by decide) rfl (fun ls hl => ?_)
  refine lv_iconst (v := (0 : Int32)) hx hb d_Pairs_countNew_2 (by decide) ?_
  refine lv_istore_n (lv' := [(3, .int (0 : Int32)), (2, .int (0 : Int32)), (0, .ref (base + l0)), (1, .ref (base + l1))]) hx hb d_Pairs_countNew_3 rfl hl (by decide) rfl (fun ls hl => ?_)
  exact t_Pairs_countNew_4  C  FU (0 : Int32) (0 : Int32) hM _ _ _ hS (lv_sub hl [2, 3, 1, 0] rfl)
theorem c_Pairs_countNew (l : Launch) (base : Nat) (D : va_G) (cI cZ : ClassId) (h : Hp) (l0 : Nat) (l1 : Nat) {r : Int32} (hM : f_Pairs_countNew h l0 l1 = some r) : Ct l base D cI cZ y_Pairs_countNew b_Pairs_countNew 4 (some .int) 1 21 0 0 h [.ref (base + l0), .ref (base + l1)] h (some (.int r)) :=
  ct_of (by decide) (Nat.le_of_ble_eq_true rfl) (fun p e s m below meth c ls C hS hl => t_Pairs_countNew C hM _ _ _ hS hl)
theorem d_Pairs_join_0 : decode b_Pairs_join 0 = .ok (.aload_n 0, 1) := by decide +kernel
theorem d_Pairs_join_1 : decode b_Pairs_join 1 = .ok (.getfield 9, 3) := by decide +kernel
theorem d_Pairs_join_4 : decode b_Pairs_join 4 = .ok (.iload_n 1, 1) := by decide +kernel
theorem d_Pairs_join_5 : decode b_Pairs_join 5 = .ok (.iload_n 2, 1) := by decide +kernel
theorem d_Pairs_join_6 : decode b_Pairs_join 6 = .ok (.iastore, 1) := by decide +kernel
theorem d_Pairs_join_7 : decode b_Pairs_join 7 = .ok (.aload_n 0, 1) := by decide +kernel
theorem d_Pairs_join_8 : decode b_Pairs_join 8 = .ok (.getfield 15, 3) := by decide +kernel
theorem d_Pairs_join_11 : decode b_Pairs_join 11 = .ok (.iload_n 1, 1) := by decide +kernel
theorem d_Pairs_join_12 : decode b_Pairs_join 12 = .ok (.iload_n 3, 1) := by decide +kernel
theorem d_Pairs_join_13 : decode b_Pairs_join 13 = .ok (.iastore, 1) := by decide +kernel
theorem d_Pairs_join_14 : decode b_Pairs_join 14 = .ok (.aload_n 0, 1) := by decide +kernel
theorem d_Pairs_join_15 : decode b_Pairs_join 15 = .ok (.getfield 18, 3) := by decide +kernel
theorem d_Pairs_join_18 : decode b_Pairs_join 18 = .ok (.iload_n 2, 1) := by decide +kernel
theorem d_Pairs_join_19 : decode b_Pairs_join 19 = .ok (.iload_n 1, 1) := by decide +kernel
theorem d_Pairs_join_20 : decode b_Pairs_join 20 = .ok (.iastore, 1) := by decide +kernel
theorem d_Pairs_join_21 : decode b_Pairs_join 21 = .ok (.return_, 1) := by decide +kernel
def f_Pairs_join (h : Hp) (l0 : Nat) (l1 : Int32) (l2 : Int32) (l3 : Int32) : Option Hp :=
  ck h 5 l0 (
    (gR h 5 l0 0).bind fun t1 =>
    (sA h t1 l1 l2).bind fun h2 =>
    (gR h2 5 l0 1).bind fun t3 =>
    (sA h2 t3 l1 l3).bind fun h4 =>
    (gR h4 5 l0 2).bind fun t5 =>
    (sA h4 t5 l2 l1).bind fun h6 =>
    some h6
  )
theorem o_Pairs_join {h : Hp} {l0 : Nat} {l1 : Int32} {l2 : Int32} {l3 : Int32} {r : Hp} (hM : f_Pairs_join h l0 l1 l2 l3 = some r) : isO h 5 l0 = true := by
  unfold f_Pairs_join at hM
  exact (ck_some hM).1
set_option maxHeartbeats 4000000 in
set_option maxRecDepth 100000 in
theorem t_Pairs_join {h : Hp} {l0 : Nat} {l1 : Int32} {l2 : Int32} {l3 : Int32} {r : Hp} (C : Cx base D cI cZ b_Pairs_join 4 "MovedFolders$Pairs" "join" none p s m args meth c) (hM : f_Pairs_join h l0 l1 l2 l3 = some r) (H : Heap) (locs : List Loc) (ls : Array Slot) (hS : RS base D cI cZ s H locs h) (hl : lv_has ls 4 [(0, .ref (base + l0)), (1, .int l1), (2, .int l2), (3, .int l3)]) : Wg l base D cI cZ 0 0 0 0 r none p e s m args below meth c H locs 0 0 (F0 m 0 ls []) := by
  have hx := C.1
  have hb := C.2.1
  unfold f_Pairs_join at hM
  replace hM := (ck_some hM).2
  refine lv_aload_n hx hb d_Pairs_join_0 rfl (lv_at hl 0 rfl) ?_
  obtain ⟨t1, et1, hM⟩ := bS hM
  refine r_getR C hS fl_Pairs_9 et1 d_Pairs_join_1 ?_
  refine lv_iload_n hx hb d_Pairs_join_4 rfl (lv_at hl 1 rfl) ?_
  refine lv_iload_n hx hb d_Pairs_join_5 rfl (lv_at hl 2 rfl) ?_
  obtain ⟨h2, eh2, hM⟩ := bS hM
  refine r_iast C hS eh2 d_Pairs_join_6 (fun H locs hS => ?_)
  refine lv_aload_n hx hb d_Pairs_join_7 rfl (lv_at hl 0 rfl) ?_
  obtain ⟨t3, et3, hM⟩ := bS hM
  refine r_getR C hS fl_Pairs_15 et3 d_Pairs_join_8 ?_
  refine lv_iload_n hx hb d_Pairs_join_11 rfl (lv_at hl 1 rfl) ?_
  refine lv_iload_n hx hb d_Pairs_join_12 rfl (lv_at hl 3 rfl) ?_
  obtain ⟨h4, eh4, hM⟩ := bS hM
  refine r_iast C hS eh4 d_Pairs_join_13 (fun H locs hS => ?_)
  refine lv_aload_n hx hb d_Pairs_join_14 rfl (lv_at hl 0 rfl) ?_
  obtain ⟨t5, et5, hM⟩ := bS hM
  refine r_getR C hS fl_Pairs_18 et5 d_Pairs_join_15 ?_
  refine lv_iload_n hx hb d_Pairs_join_18 rfl (lv_at hl 2 rfl) ?_
  refine lv_iload_n hx hb d_Pairs_join_19 rfl (lv_at hl 1 rfl) ?_
  obtain ⟨h6, eh6, hM⟩ := bS hM
  refine r_iast C hS eh6 d_Pairs_join_20 (fun H locs hS => ?_)
  obtain rfl := Option.some.inj hM
  exact r_vret C hS d_Pairs_join_21
theorem c_Pairs_join (l : Launch) (base : Nat) (D : va_G) (cI cZ : ClassId) (h : Hp) (l0 : Nat) (l1 : Int32) (l2 : Int32) (l3 : Int32) {r : Hp} (hM : f_Pairs_join h l0 l1 l2 l3 = some r) : Ct l base D cI cZ y_Pairs_join b_Pairs_join 4 none 0 0 0 0 h [.ref (base + l0), .int l1, .int l2, .int l3] r none :=
  ct_of (by decide) (Nat.le_of_ble_eq_true rfl) (fun p e s m below meth c ls C hS hl => t_Pairs_join C hM _ _ _ hS hl)
theorem d_Pairs_joinStayed_0 : decode b_Pairs_joinStayed 0 = .ok (.iconst 0, 1) := by decide +kernel
theorem d_Pairs_joinStayed_1 : decode b_Pairs_joinStayed 1 = .ok (.istore_n 3, 1) := by decide +kernel
theorem d_Pairs_joinStayed_2 : decode b_Pairs_joinStayed 2 = .ok (.iload_n 3, 1) := by decide +kernel
theorem d_Pairs_joinStayed_3 : decode b_Pairs_joinStayed 3 = .ok (.aload_n 1, 1) := by decide +kernel
theorem d_Pairs_joinStayed_4 : decode b_Pairs_joinStayed 4 = .ok (.invokevirtual 24, 3) := by decide +kernel
theorem d_Pairs_joinStayed_7 : decode b_Pairs_joinStayed 7 = .ok (.if_icmp .ge 35, 3) := by decide +kernel
theorem d_Pairs_joinStayed_10 : decode b_Pairs_joinStayed 10 = .ok (.aload_n 2, 1) := by decide +kernel
theorem d_Pairs_joinStayed_11 : decode b_Pairs_joinStayed 11 = .ok (.aload_n 1, 1) := by decide +kernel
theorem d_Pairs_joinStayed_12 : decode b_Pairs_joinStayed 12 = .ok (.iload_n 3, 1) := by decide +kernel
theorem d_Pairs_joinStayed_13 : decode b_Pairs_joinStayed 13 = .ok (.invokevirtual 52, 3) := by decide +kernel
theorem d_Pairs_joinStayed_16 : decode b_Pairs_joinStayed 16 = .ok (.invokevirtual 55, 3) := by decide +kernel
theorem d_Pairs_joinStayed_19 : decode b_Pairs_joinStayed 19 = .ok (.istore 4, 2) := by decide +kernel
theorem d_Pairs_joinStayed_21 : decode b_Pairs_joinStayed 21 = .ok (.iload 4, 2) := by decide +kernel
theorem d_Pairs_joinStayed_23 : decode b_Pairs_joinStayed 23 = .ok (.bipush (-6), 2) := by decide +kernel
theorem d_Pairs_joinStayed_25 : decode b_Pairs_joinStayed 25 = .ok (.if_icmp .eq 11, 3) := by decide +kernel
theorem d_Pairs_joinStayed_28 : decode b_Pairs_joinStayed 28 = .ok (.aload_n 0, 1) := by decide +kernel
theorem d_Pairs_joinStayed_29 : decode b_Pairs_joinStayed 29 = .ok (.iload_n 3, 1) := by decide +kernel
theorem d_Pairs_joinStayed_30 : decode b_Pairs_joinStayed 30 = .ok (.iload 4, 2) := by decide +kernel
theorem d_Pairs_joinStayed_32 : decode b_Pairs_joinStayed 32 = .ok (.iconst 0, 1) := by decide +kernel
theorem d_Pairs_joinStayed_33 : decode b_Pairs_joinStayed 33 = .ok (.invokevirtual 58, 3) := by decide +kernel
theorem d_Pairs_joinStayed_36 : decode b_Pairs_joinStayed 36 = .ok (.iinc 3 1, 3) := by decide +kernel
theorem d_Pairs_joinStayed_39 : decode b_Pairs_joinStayed 39 = .ok (.goto (-37), 3) := by decide +kernel
theorem d_Pairs_joinStayed_42 : decode b_Pairs_joinStayed 42 = .ok (.return_, 1) := by decide +kernel
def f_Pairs_joinStayed_2 (l0 : Nat) (l1 : Nat) (l2 : Nat) : Nat → Int32 → Hp → Option Hp
  | 0, _, _ => none
  | n + 1, l3, h =>
    (f_Tree_size h l1).bind fun t1 =>
    if t1 ≤ l3 then (
      some h
    ) else (
      (f_Tree_pathAt h l1 l3).bind fun t2 =>
      (f_Tree_find h l2 t2).bind fun t3 =>
      (
        if t3 = (-6 : Int32) then (
          some h
        ) else (
          (f_Pairs_join h l0 l3 t3 (0 : Int32)).bind fun h5 =>
          some h5
        )
      ).bind fun h4 =>
      f_Pairs_joinStayed_2 l0 l1 l2 n (l3 + (1 : Int32)) h4
    )
set_option maxHeartbeats 4000000 in
set_option maxRecDepth 100000 in
theorem t_Pairs_joinStayed_2 {l0 : Nat} {l1 : Nat} {l2 : Nat} {r : Hp} (C : Cx base D cI cZ b_Pairs_joinStayed 5 "MovedFolders$Pairs" "joinStayed" none p s m args meth c)  : ∀ (n : Nat) (l3 : Int32) (h : Hp), f_Pairs_joinStayed_2 l0 l1 l2 n l3 h = some r → ∀ (H : Heap) (locs : List Loc) (ls : Array Slot), RS base D cI cZ s H locs h → lv_has ls 5 [(0, .ref (base + l0)), (1, .ref (base + l1)), (2, .ref (base + l2)), (3, .int l3)] → Wg l base D cI cZ 2 42 0 0 r none p e s m args below meth c H locs 0 0 (F0 m 2 ls []) := by
  have hx := C.1
  have hb := C.2.1
  intro n
  induction n with
  | zero =>
    intro l3 h hM
    rw [f_Pairs_joinStayed_2] at hM
    cases hM
  | succ n ih =>
    intro l3 h hM H locs ls hS hl
    rw [f_Pairs_joinStayed_2] at hM
    refine lv_iload_n hx hb d_Pairs_joinStayed_2 rfl (lv_at hl 3 rfl) ?_
    refine lv_aload_n hx hb d_Pairs_joinStayed_3 rfl (lv_at hl 1 rfl) ?_
    obtain ⟨t1, et1, hM⟩ := bS hM
    refine r_callVi (x := t1) C hS cv_Pairs_24 (c_Tree_size l base D cI cZ h l1 et1) (o_Tree_size et1) (rest := [.int l3]) rfl hl.1 rfl (Nat.le_of_ble_eq_true rfl) ⟨(Nat.le_of_ble_eq_true rfl), (Nat.le_of_ble_eq_true rfl)⟩ ⟨(Nat.le_of_ble_eq_true rfl), (Nat.le_of_ble_eq_true rfl)⟩ d_Pairs_joinStayed_4 (fun H locs hS => ?_)
    refine lv_icmp_ge (tgt := 42) hx hb d_Pairs_joinStayed_7 (by decide) (fun c7_1 => ?_) (fun c7_1 => ?_)
    · rw [if_pos c7_1] at hM
      obtain rfl := Option.some.inj hM
      exact r_vret C hS d_Pairs_joinStayed_42
    · rw [if_neg c7_1] at hM
      refine lv_aload_n hx hb d_Pairs_joinStayed_10 rfl (lv_at hl 2 rfl) ?_
      refine lv_aload_n hx hb d_Pairs_joinStayed_11 rfl (lv_at hl 1 rfl) ?_
      refine lv_iload_n hx hb d_Pairs_joinStayed_12 rfl (lv_at hl 3 rfl) ?_
      obtain ⟨t2, et2, hM⟩ := bS hM
      refine r_callVi (x := t2) C hS cv_Pairs_52 (c_Tree_pathAt l base D cI cZ h l1 l3 et2) (o_Tree_pathAt et2) (rest := [.ref (base + l2)]) rfl hl.1 rfl (Nat.le_of_ble_eq_true rfl) ⟨(Nat.le_of_ble_eq_true rfl), (Nat.le_of_ble_eq_true rfl)⟩ ⟨(Nat.le_of_ble_eq_true rfl), (Nat.le_of_ble_eq_true rfl)⟩ d_Pairs_joinStayed_13 (fun H locs hS => ?_)
      obtain ⟨t3, et3, hM⟩ := bS hM
      refine r_callVi (x := t3) C hS cv_Pairs_55 (c_Tree_find l base D cI cZ h l2 t2 et3) (o_Tree_find et3) (rest := []) rfl hl.1 rfl (Nat.le_of_ble_eq_true rfl) ⟨(Nat.le_of_ble_eq_true rfl), (Nat.le_of_ble_eq_true rfl)⟩ ⟨(Nat.le_of_ble_eq_true rfl), (Nat.le_of_ble_eq_true rfl)⟩ d_Pairs_joinStayed_16 (fun H locs hS => ?_)
      refine lv_istore (lv' := [(4, .int t3), (0, .ref (base + l0)), (1, .ref (base + l1)), (2, .ref (base + l2)), (3, .int l3)]) hx hb d_Pairs_joinStayed_19 hl (by decide) rfl (fun ls hl => ?_)
      refine lv_iload hx hb d_Pairs_joinStayed_21 (lv_at hl 0 rfl) ?_
      refine lv_bipush (v := (-6 : Int32)) hx hb d_Pairs_joinStayed_23 (by decide) ?_
      obtain ⟨h4, eh4, hM⟩ := bS hM
      have kJ36_2 : ∀ (H : Heap) (locs : List Loc) (ls : Array Slot), RS base D cI cZ s H locs h4 → lv_has ls 5 [(0, .ref (base + l0)), (1, .ref (base + l1)), (2, .ref (base + l2)), (3, .int l3)] → Wg l base D cI cZ 2 42 0 0 r none p e s m args below meth c H locs 0 0 (F0 m 36 ls []) := by
        intro H locs ls hS hl
        refine lv_iinc (v := (l3 + (1 : Int32))) (lv' := [(3, .int (l3 + (1 : Int32))), (0, .ref (base + l0)), (1, .ref (base + l1)), (2, .ref (base + l2))]) hx hb d_Pairs_joinStayed_36 hl (k := 3) rfl (by rw [oi_1]) (by decide) rfl (fun ls hl => ?_)
        refine lv_goto (tgt := 2) hx hb d_Pairs_joinStayed_39 (by decide) ?_
        exact ih (l3 + (1 : Int32)) h4 hM _ _ _ hS (lv_sub hl [1, 2, 3, 0] rfl)
      refine lv_icmp_eq (tgt := 36) hx hb d_Pairs_joinStayed_25 (by decide) (fun c25_3 => ?_) (fun c25_3 => ?_)
      · rw [if_pos c25_3] at eh4
        obtain rfl := Option.some.inj eh4
        exact kJ36_2 _ _ _ hS (lv_sub hl [1, 2, 3, 4] rfl)
      · rw [if_neg c25_3] at eh4
        refine lv_aload_n hx hb d_Pairs_joinStayed_28 rfl (lv_at hl 1 rfl) ?_
        refine lv_iload_n hx hb d_Pairs_joinStayed_29 rfl (lv_at hl 4 rfl) ?_
        refine lv_iload hx hb d_Pairs_joinStayed_30 (lv_at hl 0 rfl) ?_
        refine lv_iconst (v := (0 : Int32)) hx hb d_Pairs_joinStayed_32 (by decide) ?_
        obtain ⟨h5, eh5, eh4⟩ := bS eh4
        refine r_callVv C hS cv_Pairs_58 (c_Pairs_join l base D cI cZ h l0 l3 t3 (0 : Int32) eh5) (o_Pairs_join eh5) (rest := []) rfl hl.1 rfl (Nat.le_of_ble_eq_true rfl) ⟨(Nat.le_of_ble_eq_true rfl), (Nat.le_of_ble_eq_true rfl)⟩ ⟨(Nat.le_of_ble_eq_true rfl), (Nat.le_of_ble_eq_true rfl)⟩ d_Pairs_joinStayed_33 (fun H locs hS => ?_)
        obtain rfl := Option.some.inj eh4
        exact kJ36_2 _ _ _ hS (lv_sub hl [1, 2, 3, 4] rfl)
def f_Pairs_joinStayed (h : Hp) (l0 : Nat) (l1 : Nat) (l2 : Nat) : Option Hp :=
  ck h 5 l0 (
    f_Pairs_joinStayed_2 l0 l1 l2 FU (0 : Int32) h
  )
theorem o_Pairs_joinStayed {h : Hp} {l0 : Nat} {l1 : Nat} {l2 : Nat} {r : Hp} (hM : f_Pairs_joinStayed h l0 l1 l2 = some r) : isO h 5 l0 = true := by
  unfold f_Pairs_joinStayed at hM
  exact (ck_some hM).1
set_option maxHeartbeats 4000000 in
set_option maxRecDepth 100000 in
theorem t_Pairs_joinStayed {h : Hp} {l0 : Nat} {l1 : Nat} {l2 : Nat} {r : Hp} (C : Cx base D cI cZ b_Pairs_joinStayed 5 "MovedFolders$Pairs" "joinStayed" none p s m args meth c) (hM : f_Pairs_joinStayed h l0 l1 l2 = some r) (H : Heap) (locs : List Loc) (ls : Array Slot) (hS : RS base D cI cZ s H locs h) (hl : lv_has ls 5 [(0, .ref (base + l0)), (1, .ref (base + l1)), (2, .ref (base + l2))]) : Wg l base D cI cZ 2 42 0 0 r none p e s m args below meth c H locs 0 0 (F0 m 0 ls []) := by
  have hx := C.1
  have hb := C.2.1
  unfold f_Pairs_joinStayed at hM
  replace hM := (ck_some hM).2
  refine lv_iconst (v := (0 : Int32)) hx hb d_Pairs_joinStayed_0 (by decide) ?_
  refine lv_istore_n (lv' := [(3, .int (0 : Int32)), (0, .ref (base + l0)), (1, .ref (base + l1)), (2, .ref (base + l2))]) hx hb d_Pairs_joinStayed_1 rfl hl (by decide) rfl (fun ls hl => ?_)
  exact t_Pairs_joinStayed_2  C  FU (0 : Int32) h hM _ _ _ hS (lv_sub hl [1, 2, 3, 0] rfl)
theorem c_Pairs_joinStayed (l : Launch) (base : Nat) (D : va_G) (cI cZ : ClassId) (h : Hp) (l0 : Nat) (l1 : Nat) (l2 : Nat) {r : Hp} (hM : f_Pairs_joinStayed h l0 l1 l2 = some r) : Ct l base D cI cZ y_Pairs_joinStayed b_Pairs_joinStayed 5 none 2 42 0 0 h [.ref (base + l0), .ref (base + l1), .ref (base + l2)] r none :=
  ct_of (by decide) (Nat.le_of_ble_eq_true rfl) (fun p e s m below meth c ls C hS hl => t_Pairs_joinStayed C hM _ _ _ hS hl)
theorem d_Pieces_tally_0 : decode b_Pieces_tally 0 = .ok (.lconst 0, 1) := by decide +kernel
theorem d_Pieces_tally_1 : decode b_Pieces_tally 1 = .ok (.lstore_n 1, 1) := by decide +kernel
theorem d_Pieces_tally_2 : decode b_Pieces_tally 2 = .ok (.iload_n 0, 1) := by decide +kernel
theorem d_Pieces_tally_3 : decode b_Pieces_tally 3 = .ok (.istore_n 3, 1) := by decide +kernel
theorem d_Pieces_tally_4 : decode b_Pieces_tally 4 = .ok (.iconst 0, 1) := by decide +kernel
theorem d_Pieces_tally_5 : decode b_Pieces_tally 5 = .ok (.istore 4, 2) := by decide +kernel
theorem d_Pieces_tally_7 : decode b_Pieces_tally 7 = .ok (.iload 4, 2) := by decide +kernel
theorem d_Pieces_tally_9 : decode b_Pieces_tally 9 = .ok (.bipush 6, 2) := by decide +kernel
theorem d_Pieces_tally_11 : decode b_Pieces_tally 11 = .ok (.if_icmp .ge 35, 3) := by decide +kernel
theorem d_Pieces_tally_14 : decode b_Pieces_tally 14 = .ok (.lload_n 1, 1) := by decide +kernel
theorem d_Pieces_tally_15 : decode b_Pieces_tally 15 = .ok (.iload_n 3, 1) := by decide +kernel
theorem d_Pieces_tally_16 : decode b_Pieces_tally 16 = .ok (.bipush 10, 2) := by decide +kernel
theorem d_Pieces_tally_18 : decode b_Pieces_tally 18 = .ok (.if_icmp .lt 14, 3) := by decide +kernel
theorem d_Pieces_tally_21 : decode b_Pieces_tally 21 = .ok (.lconst 1, 1) := by decide +kernel
theorem d_Pieces_tally_22 : decode b_Pieces_tally 22 = .ok (.iconst 4, 1) := by decide +kernel
theorem d_Pieces_tally_23 : decode b_Pieces_tally 23 = .ok (.iload_n 3, 1) := by decide +kernel
theorem d_Pieces_tally_24 : decode b_Pieces_tally 24 = .ok (.bipush 10, 2) := by decide +kernel
theorem d_Pieces_tally_26 : decode b_Pieces_tally 26 = .ok (.irem, 1) := by decide +kernel
theorem d_Pieces_tally_27 : decode b_Pieces_tally 27 = .ok (.imul, 1) := by decide +kernel
theorem d_Pieces_tally_28 : decode b_Pieces_tally 28 = .ok (.lshl, 1) := by decide +kernel
theorem d_Pieces_tally_29 : decode b_Pieces_tally 29 = .ok (.goto 4, 3) := by decide +kernel
theorem d_Pieces_tally_32 : decode b_Pieces_tally 32 = .ok (.lconst 0, 1) := by decide +kernel
theorem d_Pieces_tally_33 : decode b_Pieces_tally 33 = .ok (.ladd, 1) := by decide +kernel
theorem d_Pieces_tally_34 : decode b_Pieces_tally 34 = .ok (.lstore_n 1, 1) := by decide +kernel
theorem d_Pieces_tally_35 : decode b_Pieces_tally 35 = .ok (.iload_n 3, 1) := by decide +kernel
theorem d_Pieces_tally_36 : decode b_Pieces_tally 36 = .ok (.bipush 10, 2) := by decide +kernel
theorem d_Pieces_tally_38 : decode b_Pieces_tally 38 = .ok (.idiv, 1) := by decide +kernel
theorem d_Pieces_tally_39 : decode b_Pieces_tally 39 = .ok (.istore_n 3, 1) := by decide +kernel
theorem d_Pieces_tally_40 : decode b_Pieces_tally 40 = .ok (.iinc 4 1, 3) := by decide +kernel
theorem d_Pieces_tally_43 : decode b_Pieces_tally 43 = .ok (.goto (-36), 3) := by decide +kernel
theorem d_Pieces_tally_46 : decode b_Pieces_tally 46 = .ok (.lload_n 1, 1) := by decide +kernel
theorem d_Pieces_tally_47 : decode b_Pieces_tally 47 = .ok (.lreturn, 1) := by decide +kernel
def f_Pieces_tally_7  : Nat → Int64 → Int32 → Int32 → Option Int64
  | 0, _, _, _ => none
  | n + 1, l1, l3, l4 =>
    if (6 : Int32) ≤ l4 then (
      some l1
    ) else (
      f_Pieces_tally_7 n (l1 + (if l3 < (10 : Int32) then ((0 : Int64)) else (((1 : Int64) <<< (((4 : Int32) * (irem l3 (10 : Int32))).toInt64 &&& 63))))) (l3 / (10 : Int32)) (l4 + (1 : Int32))
    )
set_option maxHeartbeats 4000000 in
set_option maxRecDepth 100000 in
theorem t_Pieces_tally_7 {h : Hp} {r : Int64} (C : Cx base D cI cZ b_Pieces_tally 5 "MovedFolders$Pieces" "tally" (some .long) p s m args meth c)  : ∀ (n : Nat) (l1 : Int64) (l3 : Int32) (l4 : Int32), f_Pieces_tally_7 n l1 l3 l4 = some r → ∀ (H : Heap) (locs : List Loc) (ls : Array Slot), RS base D cI cZ s H locs h → lv_has ls 5 [(1, .long l1), (3, .int l3), (4, .int l4)] → Wg l base D cI cZ 0 0 0 0 h (some (.long r)) p e s m args below meth c H locs 0 0 (F0 m 7 ls []) := by
  have hx := C.1
  have hb := C.2.1
  intro n
  induction n with
  | zero =>
    intro l1 l3 l4 hM
    rw [f_Pieces_tally_7] at hM
    cases hM
  | succ n ih =>
    intro l1 l3 l4 hM H locs ls hS hl
    rw [f_Pieces_tally_7] at hM
    refine lv_iload hx hb d_Pieces_tally_7 (lv_at hl 2 rfl) ?_
    refine lv_bipush (v := (6 : Int32)) hx hb d_Pieces_tally_9 (by decide) ?_
    refine lv_icmp_ge (tgt := 46) hx hb d_Pieces_tally_11 (by decide) (fun c11_1 => ?_) (fun c11_1 => ?_)
    · rw [if_pos c11_1] at hM
      refine lv_lload_n hx hb d_Pieces_tally_46 rfl (lv_at hl 0 rfl) ?_
      obtain rfl := Option.some.inj hM
      exact r_lret C hS d_Pieces_tally_47
    · rw [if_neg c11_1] at hM
      refine lv_lload_n hx hb d_Pieces_tally_14 rfl (lv_at hl 0 rfl) ?_
      refine lv_iload_n hx hb d_Pieces_tally_15 rfl (lv_at hl 1 rfl) ?_
      refine lv_bipush (v := (10 : Int32)) hx hb d_Pieces_tally_16 (by decide) ?_
      have kJ33_2 : ∀ (H : Heap) (locs : List Loc) (ls : Array Slot), RS base D cI cZ s H locs h → lv_has ls 5 [(3, .int l3), (4, .int l4)] → Wg l base D cI cZ 0 0 0 0 h (some (.long r)) p e s m args below meth c H locs 0 0 (F0 m 33 ls [.long (if l3 < (10 : Int32) then ((0 : Int64)) else (((1 : Int64) <<< (((4 : Int32) * (irem l3 (10 : Int32))).toInt64 &&& 63)))), .long l1]) := by
        intro H locs ls hS hl
        refine lv_ladd hx hb d_Pieces_tally_33 ?_
        refine lv_lstore_n (lv' := [(1, .long (l1 + (if l3 < (10 : Int32) then ((0 : Int64)) else (((1 : Int64) <<< (((4 : Int32) * (irem l3 (10 : Int32))).toInt64 &&& 63)))))), (3, .int l3), (4, .int l4)]) hx hb d_Pieces_tally_34 rfl hl (by decide) rfl (fun ls hl => ?_)
        refine lv_iload_n hx hb d_Pieces_tally_35 rfl (lv_at hl 1 rfl) ?_
        refine lv_bipush (v := (10 : Int32)) hx hb d_Pieces_tally_36 (by decide) ?_
        refine lv_idiv hx hb d_Pieces_tally_38 (by decide) ?_
        refine lv_istore_n (lv' := [(3, .int (l3 / (10 : Int32))), (1, .long (l1 + (if l3 < (10 : Int32) then ((0 : Int64)) else (((1 : Int64) <<< (((4 : Int32) * (irem l3 (10 : Int32))).toInt64 &&& 63)))))), (4, .int l4)]) hx hb d_Pieces_tally_39 rfl hl (by decide) rfl (fun ls hl => ?_)
        refine lv_iinc (v := (l4 + (1 : Int32))) (lv' := [(4, .int (l4 + (1 : Int32))), (3, .int (l3 / (10 : Int32))), (1, .long (l1 + (if l3 < (10 : Int32) then ((0 : Int64)) else (((1 : Int64) <<< (((4 : Int32) * (irem l3 (10 : Int32))).toInt64 &&& 63))))))]) hx hb d_Pieces_tally_40 hl (k := 2) rfl (by rw [oi_1]) (by decide) rfl (fun ls hl => ?_)
        refine lv_goto (tgt := 7) hx hb d_Pieces_tally_43 (by decide) ?_
        exact ih (l1 + (if l3 < (10 : Int32) then ((0 : Int64)) else (((1 : Int64) <<< (((4 : Int32) * (irem l3 (10 : Int32))).toInt64 &&& 63))))) (l3 / (10 : Int32)) (l4 + (1 : Int32)) hM _ _ _ hS (lv_sub hl [2, 1, 0] rfl)
      refine lv_icmp_lt (tgt := 32) hx hb d_Pieces_tally_18 (by decide) (fun c18_3 => ?_) (fun c18_3 => ?_)
      · rw [if_pos c18_3] at kJ33_2
        refine lv_lconst (v := (0 : Int64)) hx hb d_Pieces_tally_32 (by decide) ?_
        exact kJ33_2 _ _ _ hS (lv_sub hl [1, 2] rfl)
      · rw [if_neg c18_3] at kJ33_2
        refine lv_lconst (v := (1 : Int64)) hx hb d_Pieces_tally_21 (by decide) ?_
        refine lv_iconst (v := (4 : Int32)) hx hb d_Pieces_tally_22 (by decide) ?_
        refine lv_iload_n hx hb d_Pieces_tally_23 rfl (lv_at hl 1 rfl) ?_
        refine lv_bipush (v := (10 : Int32)) hx hb d_Pieces_tally_24 (by decide) ?_
        refine r_irem hx hb d_Pieces_tally_26 (by decide) ?_
        refine lv_imul hx hb d_Pieces_tally_27 ?_
        refine lv_lshl (v := ((1 : Int64) <<< (((4 : Int32) * (irem l3 (10 : Int32))).toInt64 &&& 63))) hx hb d_Pieces_tally_28 rfl ?_
        refine lv_goto (tgt := 33) hx hb d_Pieces_tally_29 (by decide) ?_
        exact kJ33_2 _ _ _ hS (lv_sub hl [1, 2] rfl)
def f_Pieces_tally (l0 : Int32) : Option Int64 :=
  f_Pieces_tally_7 FU (0 : Int64) l0 (0 : Int32)
set_option maxHeartbeats 4000000 in
set_option maxRecDepth 100000 in
theorem t_Pieces_tally {h : Hp} {l0 : Int32} {r : Int64} (C : Cx base D cI cZ b_Pieces_tally 5 "MovedFolders$Pieces" "tally" (some .long) p s m args meth c) (hM : f_Pieces_tally l0 = some r) (H : Heap) (locs : List Loc) (ls : Array Slot) (hS : RS base D cI cZ s H locs h) (hl : lv_has ls 5 [(0, .int l0)]) : Wg l base D cI cZ 0 0 0 0 h (some (.long r)) p e s m args below meth c H locs 0 0 (F0 m 0 ls []) := by
  have hx := C.1
  have hb := C.2.1
  unfold f_Pieces_tally at hM
  refine lv_lconst (v := (0 : Int64)) hx hb d_Pieces_tally_0 (by decide) ?_
  refine lv_lstore_n (lv' := [(1, .long (0 : Int64)), (0, .int l0)]) hx hb d_Pieces_tally_1 rfl hl (by decide) rfl (fun ls hl => ?_)
  refine lv_iload_n hx hb d_Pieces_tally_2 rfl (lv_at hl 1 rfl) ?_
  refine lv_istore_n (lv' := [(3, .int l0), (1, .long (0 : Int64)), (0, .int l0)]) hx hb d_Pieces_tally_3 rfl hl (by decide) rfl (fun ls hl => ?_)
  refine lv_iconst (v := (0 : Int32)) hx hb d_Pieces_tally_4 (by decide) ?_
  refine lv_istore (lv' := [(4, .int (0 : Int32)), (3, .int l0), (1, .long (0 : Int64)), (0, .int l0)]) hx hb d_Pieces_tally_5 hl (by decide) rfl (fun ls hl => ?_)
  exact t_Pieces_tally_7  C  FU (0 : Int64) l0 (0 : Int32) hM _ _ _ hS (lv_sub hl [2, 1, 0] rfl)
theorem c_Pieces_tally (l : Launch) (base : Nat) (D : va_G) (cI cZ : ClassId) (h : Hp) (l0 : Int32) {r : Int64} (hM : f_Pieces_tally l0 = some r) : Ct l base D cI cZ y_Pieces_tally b_Pieces_tally 5 (some .long) 0 0 0 0 h [.int l0] h (some (.long r)) :=
  ct_of (by decide) (Nat.le_of_ble_eq_true rfl) (fun p e s m below meth c ls C hS hl => t_Pieces_tally C hM _ _ _ hS hl)
theorem d_Pieces_shared_0 : decode b_Pieces_shared 0 = .ok (.iconst 0, 1) := by decide +kernel
theorem d_Pieces_shared_1 : decode b_Pieces_shared 1 = .ok (.istore 4, 2) := by decide +kernel
theorem d_Pieces_shared_3 : decode b_Pieces_shared 3 = .ok (.iconst 0, 1) := by decide +kernel
theorem d_Pieces_shared_4 : decode b_Pieces_shared 4 = .ok (.istore 5, 2) := by decide +kernel
theorem d_Pieces_shared_6 : decode b_Pieces_shared 6 = .ok (.iload 5, 2) := by decide +kernel
theorem d_Pieces_shared_8 : decode b_Pieces_shared 8 = .ok (.bipush 10, 2) := by decide +kernel
theorem d_Pieces_shared_10 : decode b_Pieces_shared 10 = .ok (.if_icmp .ge 46, 3) := by decide +kernel
theorem d_Pieces_shared_13 : decode b_Pieces_shared 13 = .ok (.lload_n 0, 1) := by decide +kernel
theorem d_Pieces_shared_14 : decode b_Pieces_shared 14 = .ok (.iconst 4, 1) := by decide +kernel
theorem d_Pieces_shared_15 : decode b_Pieces_shared 15 = .ok (.iload 5, 2) := by decide +kernel
theorem d_Pieces_shared_17 : decode b_Pieces_shared 17 = .ok (.imul, 1) := by decide +kernel
theorem d_Pieces_shared_18 : decode b_Pieces_shared 18 = .ok (.lshr, 1) := by decide +kernel
theorem d_Pieces_shared_19 : decode b_Pieces_shared 19 = .ok (.ldc2_w 29, 3) := by decide +kernel
theorem d_Pieces_shared_22 : decode b_Pieces_shared 22 = .ok (.land, 1) := by decide +kernel
theorem d_Pieces_shared_23 : decode b_Pieces_shared 23 = .ok (.lstore 6, 2) := by decide +kernel
theorem d_Pieces_shared_25 : decode b_Pieces_shared 25 = .ok (.lload_n 2, 1) := by decide +kernel
theorem d_Pieces_shared_26 : decode b_Pieces_shared 26 = .ok (.iconst 4, 1) := by decide +kernel
theorem d_Pieces_shared_27 : decode b_Pieces_shared 27 = .ok (.iload 5, 2) := by decide +kernel
theorem d_Pieces_shared_29 : decode b_Pieces_shared 29 = .ok (.imul, 1) := by decide +kernel
theorem d_Pieces_shared_30 : decode b_Pieces_shared 30 = .ok (.lshr, 1) := by decide +kernel
theorem d_Pieces_shared_31 : decode b_Pieces_shared 31 = .ok (.ldc2_w 29, 3) := by decide +kernel
theorem d_Pieces_shared_34 : decode b_Pieces_shared 34 = .ok (.land, 1) := by decide +kernel
theorem d_Pieces_shared_35 : decode b_Pieces_shared 35 = .ok (.lstore 8, 2) := by decide +kernel
theorem d_Pieces_shared_37 : decode b_Pieces_shared 37 = .ok (.iload 4, 2) := by decide +kernel
theorem d_Pieces_shared_39 : decode b_Pieces_shared 39 = .ok (.lload 6, 2) := by decide +kernel
theorem d_Pieces_shared_41 : decode b_Pieces_shared 41 = .ok (.lload 8, 2) := by decide +kernel
theorem d_Pieces_shared_43 : decode b_Pieces_shared 43 = .ok (.invokestatic 31, 3) := by decide +kernel
theorem d_Pieces_shared_46 : decode b_Pieces_shared 46 = .ok (.l2i, 1) := by decide +kernel
theorem d_Pieces_shared_47 : decode b_Pieces_shared 47 = .ok (.iadd, 1) := by decide +kernel
theorem d_Pieces_shared_48 : decode b_Pieces_shared 48 = .ok (.istore 4, 2) := by decide +kernel
theorem d_Pieces_shared_50 : decode b_Pieces_shared 50 = .ok (.iinc 5 1, 3) := by decide +kernel
theorem d_Pieces_shared_53 : decode b_Pieces_shared 53 = .ok (.goto (-47), 3) := by decide +kernel
theorem d_Pieces_shared_56 : decode b_Pieces_shared 56 = .ok (.iload 4, 2) := by decide +kernel
theorem d_Pieces_shared_58 : decode b_Pieces_shared 58 = .ok (.ireturn, 1) := by decide +kernel
def f_Pieces_shared_6 (l0 : Int64) (l2 : Int64) : Nat → Int32 → Int32 → Option Int32
  | 0, _, _ => none
  | n + 1, l4, l5 =>
    if (10 : Int32) ≤ l5 then (
      some l4
    ) else (
      f_Pieces_shared_6 l0 l2 n (l4 + ((mnL ((l0 >>> (((4 : Int32) * l5).toInt64 &&& 63)) &&& (15 : Int64)) ((l2 >>> (((4 : Int32) * l5).toInt64 &&& 63)) &&& (15 : Int64))).toInt32)) (l5 + (1 : Int32))
    )
set_option maxHeartbeats 4000000 in
set_option maxRecDepth 100000 in
theorem t_Pieces_shared_6 {h : Hp} {l0 : Int64} {l2 : Int64} {r : Int32} (C : Cx base D cI cZ b_Pieces_shared 10 "MovedFolders$Pieces" "shared" (some .int) p s m args meth c)  : ∀ (n : Nat) (l4 : Int32) (l5 : Int32), f_Pieces_shared_6 l0 l2 n l4 l5 = some r → ∀ (H : Heap) (locs : List Loc) (ls : Array Slot), RS base D cI cZ s H locs h → lv_has ls 10 [(0, .long l0), (2, .long l2), (4, .int l4), (5, .int l5)] → Wg l base D cI cZ 1 23 0 0 h (some (.int r)) p e s m args below meth c H locs 0 0 (F0 m 6 ls []) := by
  have hx := C.1
  have hb := C.2.1
  intro n
  induction n with
  | zero =>
    intro l4 l5 hM
    rw [f_Pieces_shared_6] at hM
    cases hM
  | succ n ih =>
    intro l4 l5 hM H locs ls hS hl
    rw [f_Pieces_shared_6] at hM
    refine lv_iload hx hb d_Pieces_shared_6 (lv_at hl 3 rfl) ?_
    refine lv_bipush (v := (10 : Int32)) hx hb d_Pieces_shared_8 (by decide) ?_
    refine lv_icmp_ge (tgt := 56) hx hb d_Pieces_shared_10 (by decide) (fun c10_1 => ?_) (fun c10_1 => ?_)
    · rw [if_pos c10_1] at hM
      refine lv_iload hx hb d_Pieces_shared_56 (lv_at hl 2 rfl) ?_
      obtain rfl := Option.some.inj hM
      exact r_iret C hS d_Pieces_shared_58
    · rw [if_neg c10_1] at hM
      refine lv_lload_n hx hb d_Pieces_shared_13 rfl (lv_at hl 0 rfl) ?_
      refine lv_iconst (v := (4 : Int32)) hx hb d_Pieces_shared_14 (by decide) ?_
      refine lv_iload hx hb d_Pieces_shared_15 (lv_at hl 3 rfl) ?_
      refine lv_imul hx hb d_Pieces_shared_17 ?_
      refine lv_lshr (v := (l0 >>> (((4 : Int32) * l5).toInt64 &&& 63))) hx hb d_Pieces_shared_18 rfl ?_
      refine lv_ldc2 (v := (15 : Int64)) hx hb C.2.2.2.1 (C.2.2.2.2.1 _ kl_Pieces_29) d_Pieces_shared_19 ?_
      refine lv_land hx hb d_Pieces_shared_22 ?_
      refine lv_lstore (lv' := [(6, .long ((l0 >>> (((4 : Int32) * l5).toInt64 &&& 63)) &&& (15 : Int64))), (0, .long l0), (2, .long l2), (4, .int l4), (5, .int l5)]) hx hb d_Pieces_shared_23 hl (by decide) rfl (fun ls hl => ?_)
      refine lv_lload_n hx hb d_Pieces_shared_25 rfl (lv_at hl 2 rfl) ?_
      refine lv_iconst (v := (4 : Int32)) hx hb d_Pieces_shared_26 (by decide) ?_
      refine lv_iload hx hb d_Pieces_shared_27 (lv_at hl 4 rfl) ?_
      refine lv_imul hx hb d_Pieces_shared_29 ?_
      refine lv_lshr (v := (l2 >>> (((4 : Int32) * l5).toInt64 &&& 63))) hx hb d_Pieces_shared_30 rfl ?_
      refine lv_ldc2 (v := (15 : Int64)) hx hb C.2.2.2.1 (C.2.2.2.2.1 _ kl_Pieces_29) d_Pieces_shared_31 ?_
      refine lv_land hx hb d_Pieces_shared_34 ?_
      refine lv_lstore (lv' := [(8, .long ((l2 >>> (((4 : Int32) * l5).toInt64 &&& 63)) &&& (15 : Int64))), (6, .long ((l0 >>> (((4 : Int32) * l5).toInt64 &&& 63)) &&& (15 : Int64))), (0, .long l0), (2, .long l2), (4, .int l4), (5, .int l5)]) hx hb d_Pieces_shared_35 hl (by decide) rfl (fun ls hl => ?_)
      refine lv_iload hx hb d_Pieces_shared_37 (lv_at hl 4 rfl) ?_
      refine lv_lload hx hb d_Pieces_shared_39 (lv_at hl 1 rfl) ?_
      refine lv_lload hx hb d_Pieces_shared_41 (lv_at hl 0 rfl) ?_
      refine r_minL C mt_Pieces_31 hl.1 ⟨(Nat.le_of_ble_eq_true rfl), (Nat.le_of_ble_eq_true rfl)⟩ ⟨(Nat.le_of_ble_eq_true rfl), (Nat.le_of_ble_eq_true rfl)⟩ d_Pieces_shared_43 ?_
      refine lv_l2i (v := ((mnL ((l0 >>> (((4 : Int32) * l5).toInt64 &&& 63)) &&& (15 : Int64)) ((l2 >>> (((4 : Int32) * l5).toInt64 &&& 63)) &&& (15 : Int64))).toInt32)) hx hb d_Pieces_shared_46 rfl ?_
      refine lv_iadd hx hb d_Pieces_shared_47 ?_
      refine lv_istore (lv' := [(4, .int (l4 + ((mnL ((l0 >>> (((4 : Int32) * l5).toInt64 &&& 63)) &&& (15 : Int64)) ((l2 >>> (((4 : Int32) * l5).toInt64 &&& 63)) &&& (15 : Int64))).toInt32))), (8, .long ((l2 >>> (((4 : Int32) * l5).toInt64 &&& 63)) &&& (15 : Int64))), (6, .long ((l0 >>> (((4 : Int32) * l5).toInt64 &&& 63)) &&& (15 : Int64))), (0, .long l0), (2, .long l2), (5, .int l5)]) hx hb d_Pieces_shared_48 hl (by decide) rfl (fun ls hl => ?_)
      refine lv_iinc (v := (l5 + (1 : Int32))) (lv' := [(5, .int (l5 + (1 : Int32))), (4, .int (l4 + ((mnL ((l0 >>> (((4 : Int32) * l5).toInt64 &&& 63)) &&& (15 : Int64)) ((l2 >>> (((4 : Int32) * l5).toInt64 &&& 63)) &&& (15 : Int64))).toInt32))), (8, .long ((l2 >>> (((4 : Int32) * l5).toInt64 &&& 63)) &&& (15 : Int64))), (6, .long ((l0 >>> (((4 : Int32) * l5).toInt64 &&& 63)) &&& (15 : Int64))), (0, .long l0), (2, .long l2)]) hx hb d_Pieces_shared_50 hl (k := 5) rfl (by rw [oi_1]) (by decide) rfl (fun ls hl => ?_)
      refine lv_goto (tgt := 6) hx hb d_Pieces_shared_53 (by decide) ?_
      exact ih (l4 + ((mnL ((l0 >>> (((4 : Int32) * l5).toInt64 &&& 63)) &&& (15 : Int64)) ((l2 >>> (((4 : Int32) * l5).toInt64 &&& 63)) &&& (15 : Int64))).toInt32)) (l5 + (1 : Int32)) hM _ _ _ hS (lv_sub hl [4, 5, 1, 0] rfl)
def f_Pieces_shared (l0 : Int64) (l2 : Int64) : Option Int32 :=
  f_Pieces_shared_6 l0 l2 FU (0 : Int32) (0 : Int32)
set_option maxHeartbeats 4000000 in
set_option maxRecDepth 100000 in
theorem t_Pieces_shared {h : Hp} {l0 : Int64} {l2 : Int64} {r : Int32} (C : Cx base D cI cZ b_Pieces_shared 10 "MovedFolders$Pieces" "shared" (some .int) p s m args meth c) (hM : f_Pieces_shared l0 l2 = some r) (H : Heap) (locs : List Loc) (ls : Array Slot) (hS : RS base D cI cZ s H locs h) (hl : lv_has ls 10 [(0, .long l0), (2, .long l2)]) : Wg l base D cI cZ 1 23 0 0 h (some (.int r)) p e s m args below meth c H locs 0 0 (F0 m 0 ls []) := by
  have hx := C.1
  have hb := C.2.1
  unfold f_Pieces_shared at hM
  refine lv_iconst (v := (0 : Int32)) hx hb d_Pieces_shared_0 (by decide) ?_
  refine lv_istore (lv' := [(4, .int (0 : Int32)), (0, .long l0), (2, .long l2)]) hx hb d_Pieces_shared_1 hl (by decide) rfl (fun ls hl => ?_)
  refine lv_iconst (v := (0 : Int32)) hx hb d_Pieces_shared_3 (by decide) ?_
  refine lv_istore (lv' := [(5, .int (0 : Int32)), (4, .int (0 : Int32)), (0, .long l0), (2, .long l2)]) hx hb d_Pieces_shared_4 hl (by decide) rfl (fun ls hl => ?_)
  exact t_Pieces_shared_6  C  FU (0 : Int32) (0 : Int32) hM _ _ _ hS (lv_sub hl [2, 3, 1, 0] rfl)
theorem c_Pieces_shared (l : Launch) (base : Nat) (D : va_G) (cI cZ : ClassId) (h : Hp) (l0 : Int64) (l2 : Int64) {r : Int32} (hM : f_Pieces_shared l0 l2 = some r) : Ct l base D cI cZ y_Pieces_shared b_Pieces_shared 10 (some .int) 1 23 0 0 h [.long l0, .long l2] h (some (.int r)) :=
  ct_of (by decide) (Nat.le_of_ble_eq_true rfl) (fun p e s m below meth c ls C hS hl => t_Pieces_shared C hM _ _ _ hS hl)
theorem d_Pieces_likeness_0 : decode b_Pieces_likeness 0 = .ok (.iload_n 0, 1) := by decide +kernel
theorem d_Pieces_likeness_1 : decode b_Pieces_likeness 1 = .ok (.invokestatic 9, 3) := by decide +kernel
theorem d_Pieces_likeness_4 : decode b_Pieces_likeness 4 = .ok (.iload_n 1, 1) := by decide +kernel
theorem d_Pieces_likeness_5 : decode b_Pieces_likeness 5 = .ok (.invokestatic 9, 3) := by decide +kernel
theorem d_Pieces_likeness_8 : decode b_Pieces_likeness 8 = .ok (.invokestatic 15, 3) := by decide +kernel
theorem d_Pieces_likeness_11 : decode b_Pieces_likeness 11 = .ok (.istore_n 2, 1) := by decide +kernel
theorem d_Pieces_likeness_12 : decode b_Pieces_likeness 12 = .ok (.iload_n 2, 1) := by decide +kernel
theorem d_Pieces_likeness_13 : decode b_Pieces_likeness 13 = .ok (.ifCond .ne 6, 3) := by decide +kernel
theorem d_Pieces_likeness_16 : decode b_Pieces_likeness 16 = .ok (.bipush 100, 2) := by decide +kernel
theorem d_Pieces_likeness_18 : decode b_Pieces_likeness 18 = .ok (.ireturn, 1) := by decide +kernel
theorem d_Pieces_likeness_19 : decode b_Pieces_likeness 19 = .ok (.bipush 100, 2) := by decide +kernel
theorem d_Pieces_likeness_21 : decode b_Pieces_likeness 21 = .ok (.iload_n 0, 1) := by decide +kernel
theorem d_Pieces_likeness_22 : decode b_Pieces_likeness 22 = .ok (.invokestatic 21, 3) := by decide +kernel
theorem d_Pieces_likeness_25 : decode b_Pieces_likeness 25 = .ok (.iload_n 1, 1) := by decide +kernel
theorem d_Pieces_likeness_26 : decode b_Pieces_likeness 26 = .ok (.invokestatic 21, 3) := by decide +kernel
theorem d_Pieces_likeness_29 : decode b_Pieces_likeness 29 = .ok (.invokestatic 25, 3) := by decide +kernel
theorem d_Pieces_likeness_32 : decode b_Pieces_likeness 32 = .ok (.imul, 1) := by decide +kernel
theorem d_Pieces_likeness_33 : decode b_Pieces_likeness 33 = .ok (.iload_n 2, 1) := by decide +kernel
theorem d_Pieces_likeness_34 : decode b_Pieces_likeness 34 = .ok (.idiv, 1) := by decide +kernel
theorem d_Pieces_likeness_35 : decode b_Pieces_likeness 35 = .ok (.ireturn, 1) := by decide +kernel
def f_Pieces_likeness (l0 : Int32) (l1 : Int32) : Option Int32 :=
  (f_Pieces_countOf l0).bind fun t1 =>
  (f_Pieces_countOf l1).bind fun t2 =>
  if (mxI t1 t2) = (0 : Int32) then (
    some (100 : Int32)
  ) else (
    (f_Pieces_tally l0).bind fun t3 =>
    (f_Pieces_tally l1).bind fun t4 =>
    (f_Pieces_shared t3 t4).bind fun t5 =>
    (idv ((100 : Int32) * t5) (mxI t1 t2)).bind fun t6 =>
    some t6
  )
set_option maxHeartbeats 4000000 in
set_option maxRecDepth 100000 in
theorem t_Pieces_likeness {h : Hp} {l0 : Int32} {l1 : Int32} {r : Int32} (C : Cx base D cI cZ b_Pieces_likeness 3 "MovedFolders$Pieces" "likeness" (some .int) p s m args meth c) (hM : f_Pieces_likeness l0 l1 = some r) (H : Heap) (locs : List Loc) (ls : Array Slot) (hS : RS base D cI cZ s H locs h) (hl : lv_has ls 3 [(0, .int l0), (1, .int l1)]) : Wg l base D cI cZ 2 52 0 0 h (some (.int r)) p e s m args below meth c H locs 0 0 (F0 m 0 ls []) := by
  have hx := C.1
  have hb := C.2.1
  unfold f_Pieces_likeness at hM
  refine lv_iload_n hx hb d_Pieces_likeness_0 rfl (lv_at hl 0 rfl) ?_
  obtain ⟨t1, et1, hM⟩ := bS hM
  refine r_callSi (x := t1) C hS cs_Pieces_9 (c_Pieces_countOf l base D cI cZ h l0 et1) (rest := []) rfl hl.1 rfl (Nat.le_of_ble_eq_true rfl) ⟨(Nat.le_of_ble_eq_true rfl), (Nat.le_of_ble_eq_true rfl)⟩ ⟨(Nat.le_of_ble_eq_true rfl), (Nat.le_of_ble_eq_true rfl)⟩ d_Pieces_likeness_1 (fun H locs hS => ?_)
  refine lv_iload_n hx hb d_Pieces_likeness_4 rfl (lv_at hl 1 rfl) ?_
  obtain ⟨t2, et2, hM⟩ := bS hM
  refine r_callSi (x := t2) C hS cs_Pieces_9 (c_Pieces_countOf l base D cI cZ h l1 et2) (rest := [.int t1]) rfl hl.1 rfl (Nat.le_of_ble_eq_true rfl) ⟨(Nat.le_of_ble_eq_true rfl), (Nat.le_of_ble_eq_true rfl)⟩ ⟨(Nat.le_of_ble_eq_true rfl), (Nat.le_of_ble_eq_true rfl)⟩ d_Pieces_likeness_5 (fun H locs hS => ?_)
  refine r_max C mt_Pieces_15 hl.1 ⟨(Nat.le_of_ble_eq_true rfl), (Nat.le_of_ble_eq_true rfl)⟩ ⟨(Nat.le_of_ble_eq_true rfl), (Nat.le_of_ble_eq_true rfl)⟩ d_Pieces_likeness_8 ?_
  refine lv_istore_n (lv' := [(2, .int (mxI t1 t2)), (0, .int l0), (1, .int l1)]) hx hb d_Pieces_likeness_11 rfl hl (by decide) rfl (fun ls hl => ?_)
  refine lv_iload_n hx hb d_Pieces_likeness_12 rfl (lv_at hl 0 rfl) ?_
  refine lv_if_ne (tgt := 19) hx hb d_Pieces_likeness_13 (by decide) (fun c13_1 => ?_) (fun c13_1 => ?_)
  · rw [if_neg c13_1] at hM
    refine lv_bipush (v := (100 : Int32)) hx hb d_Pieces_likeness_19 (by decide) ?_
    refine lv_iload_n hx hb d_Pieces_likeness_21 rfl (lv_at hl 1 rfl) ?_
    obtain ⟨t3, et3, hM⟩ := bS hM
    refine r_callSl (x := t3) C hS cs_Pieces_21 (c_Pieces_tally l base D cI cZ h l0 et3) (rest := [.int (100 : Int32)]) rfl hl.1 rfl (Nat.le_of_ble_eq_true rfl) ⟨(Nat.le_of_ble_eq_true rfl), (Nat.le_of_ble_eq_true rfl)⟩ ⟨(Nat.le_of_ble_eq_true rfl), (Nat.le_of_ble_eq_true rfl)⟩ d_Pieces_likeness_22 (fun H locs hS => ?_)
    refine lv_iload_n hx hb d_Pieces_likeness_25 rfl (lv_at hl 2 rfl) ?_
    obtain ⟨t4, et4, hM⟩ := bS hM
    refine r_callSl (x := t4) C hS cs_Pieces_21 (c_Pieces_tally l base D cI cZ h l1 et4) (rest := [.long t3, .int (100 : Int32)]) rfl hl.1 rfl (Nat.le_of_ble_eq_true rfl) ⟨(Nat.le_of_ble_eq_true rfl), (Nat.le_of_ble_eq_true rfl)⟩ ⟨(Nat.le_of_ble_eq_true rfl), (Nat.le_of_ble_eq_true rfl)⟩ d_Pieces_likeness_26 (fun H locs hS => ?_)
    obtain ⟨t5, et5, hM⟩ := bS hM
    refine r_callSi (x := t5) C hS cs_Pieces_25 (c_Pieces_shared l base D cI cZ h t3 t4 et5) (rest := [.int (100 : Int32)]) rfl hl.1 rfl (Nat.le_of_ble_eq_true rfl) ⟨(Nat.le_of_ble_eq_true rfl), (Nat.le_of_ble_eq_true rfl)⟩ ⟨(Nat.le_of_ble_eq_true rfl), (Nat.le_of_ble_eq_true rfl)⟩ d_Pieces_likeness_29 (fun H locs hS => ?_)
    refine lv_imul hx hb d_Pieces_likeness_32 ?_
    refine lv_iload_n hx hb d_Pieces_likeness_33 rfl (lv_at hl 0 rfl) ?_
    obtain ⟨t6, et6, hM⟩ := bS hM
    refine r_idivS hx hb d_Pieces_likeness_34 et6 ?_
    obtain rfl := Option.some.inj hM
    exact r_iret C hS d_Pieces_likeness_35
  · rw [if_pos c13_1] at hM
    refine lv_bipush (v := (100 : Int32)) hx hb d_Pieces_likeness_16 (by decide) ?_
    obtain rfl := Option.some.inj hM
    exact r_iret C hS d_Pieces_likeness_18
theorem c_Pieces_likeness (l : Launch) (base : Nat) (D : va_G) (cI cZ : ClassId) (h : Hp) (l0 : Int32) (l1 : Int32) {r : Int32} (hM : f_Pieces_likeness l0 l1 = some r) : Ct l base D cI cZ y_Pieces_likeness b_Pieces_likeness 3 (some .int) 2 52 0 0 h [.int l0, .int l1] h (some (.int r)) :=
  ct_of (by decide) (Nat.le_of_ble_eq_true rfl) (fun p e s m below meth c ls C hS hl => t_Pieces_likeness C hM _ _ _ hS hl)
end MM3
