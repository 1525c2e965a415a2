section MM2
variable {l : Launch} {base : Nat} {D : va_G} {cI cZ : ClassId} {p : Program} {e : Env} {s : State} {m : MethodId} {args : Array Value} {below : List Frame} {meth : Method} {c : Code}
theorem d_Merge_addOld_0 : decode b_Merge_addOld 0 = .ok (.aload_n 2, 1) := by decide +kernel
theorem d_Merge_addOld_1 : decode b_Merge_addOld 1 = .ok (.getfield 83, 3) := by decide +kernel
theorem d_Merge_addOld_4 : decode b_Merge_addOld 4 = .ok (.iload 4, 2) := by decide +kernel
theorem d_Merge_addOld_6 : decode b_Merge_addOld 6 = .ok (.invokevirtual 89, 3) := by decide +kernel
theorem d_Merge_addOld_9 : decode b_Merge_addOld 9 = .ok (.istore 5, 2) := by decide +kernel
theorem d_Merge_addOld_11 : decode b_Merge_addOld 11 = .ok (.aload_n 3, 1) := by decide +kernel
theorem d_Merge_addOld_12 : decode b_Merge_addOld 12 = .ok (.getfield 83, 3) := by decide +kernel
theorem d_Merge_addOld_15 : decode b_Merge_addOld 15 = .ok (.iload 4, 2) := by decide +kernel
theorem d_Merge_addOld_17 : decode b_Merge_addOld 17 = .ok (.invokevirtual 89, 3) := by decide +kernel
theorem d_Merge_addOld_20 : decode b_Merge_addOld 20 = .ok (.istore 6, 2) := by decide +kernel
theorem d_Merge_addOld_22 : decode b_Merge_addOld 22 = .ok (.iload 5, 2) := by decide +kernel
theorem d_Merge_addOld_24 : decode b_Merge_addOld 24 = .ok (.bipush (-6), 2) := by decide +kernel
theorem d_Merge_addOld_26 : decode b_Merge_addOld 26 = .ok (.if_icmp .ne 11, 3) := by decide +kernel
theorem d_Merge_addOld_29 : decode b_Merge_addOld 29 = .ok (.iload 6, 2) := by decide +kernel
theorem d_Merge_addOld_31 : decode b_Merge_addOld 31 = .ok (.bipush (-6), 2) := by decide +kernel
theorem d_Merge_addOld_33 : decode b_Merge_addOld 33 = .ok (.if_icmp .ne 4, 3) := by decide +kernel
theorem d_Merge_addOld_36 : decode b_Merge_addOld 36 = .ok (.return_, 1) := by decide +kernel
theorem d_Merge_addOld_37 : decode b_Merge_addOld 37 = .ok (.aload_n 1, 1) := by decide +kernel
theorem d_Merge_addOld_38 : decode b_Merge_addOld 38 = .ok (.getfield 49, 3) := by decide +kernel
theorem d_Merge_addOld_41 : decode b_Merge_addOld 41 = .ok (.iload 4, 2) := by decide +kernel
theorem d_Merge_addOld_43 : decode b_Merge_addOld 43 = .ok (.invokevirtual 95, 3) := by decide +kernel
theorem d_Merge_addOld_46 : decode b_Merge_addOld 46 = .ok (.istore 7, 2) := by decide +kernel
theorem d_Merge_addOld_48 : decode b_Merge_addOld 48 = .ok (.aload_n 1, 1) := by decide +kernel
theorem d_Merge_addOld_49 : decode b_Merge_addOld 49 = .ok (.getfield 49, 3) := by decide +kernel
theorem d_Merge_addOld_52 : decode b_Merge_addOld 52 = .ok (.iload 4, 2) := by decide +kernel
theorem d_Merge_addOld_54 : decode b_Merge_addOld 54 = .ok (.invokevirtual 98, 3) := by decide +kernel
theorem d_Merge_addOld_57 : decode b_Merge_addOld 57 = .ok (.istore 8, 2) := by decide +kernel
theorem d_Merge_addOld_59 : decode b_Merge_addOld 59 = .ok (.iload 5, 2) := by decide +kernel
theorem d_Merge_addOld_61 : decode b_Merge_addOld 61 = .ok (.bipush (-6), 2) := by decide +kernel
theorem d_Merge_addOld_63 : decode b_Merge_addOld 63 = .ok (.if_icmp .ne 8, 3) := by decide +kernel
theorem d_Merge_addOld_66 : decode b_Merge_addOld 66 = .ok (.iload 7, 2) := by decide +kernel
theorem d_Merge_addOld_68 : decode b_Merge_addOld 68 = .ok (.goto 12, 3) := by decide +kernel
theorem d_Merge_addOld_71 : decode b_Merge_addOld 71 = .ok (.aload_n 1, 1) := by decide +kernel
theorem d_Merge_addOld_72 : decode b_Merge_addOld 72 = .ok (.getfield 101, 3) := by decide +kernel
theorem d_Merge_addOld_75 : decode b_Merge_addOld 75 = .ok (.iload 5, 2) := by decide +kernel
theorem d_Merge_addOld_77 : decode b_Merge_addOld 77 = .ok (.invokevirtual 95, 3) := by decide +kernel
theorem d_Merge_addOld_80 : decode b_Merge_addOld 80 = .ok (.istore 9, 2) := by decide +kernel
theorem d_Merge_addOld_82 : decode b_Merge_addOld 82 = .ok (.iload 6, 2) := by decide +kernel
theorem d_Merge_addOld_84 : decode b_Merge_addOld 84 = .ok (.bipush (-6), 2) := by decide +kernel
theorem d_Merge_addOld_86 : decode b_Merge_addOld 86 = .ok (.if_icmp .ne 8, 3) := by decide +kernel
theorem d_Merge_addOld_89 : decode b_Merge_addOld 89 = .ok (.iload 7, 2) := by decide +kernel
theorem d_Merge_addOld_91 : decode b_Merge_addOld 91 = .ok (.goto 12, 3) := by decide +kernel
theorem d_Merge_addOld_94 : decode b_Merge_addOld 94 = .ok (.aload_n 1, 1) := by decide +kernel
theorem d_Merge_addOld_95 : decode b_Merge_addOld 95 = .ok (.getfield 70, 3) := by decide +kernel
theorem d_Merge_addOld_98 : decode b_Merge_addOld 98 = .ok (.iload 6, 2) := by decide +kernel
theorem d_Merge_addOld_100 : decode b_Merge_addOld 100 = .ok (.invokevirtual 95, 3) := by decide +kernel
theorem d_Merge_addOld_103 : decode b_Merge_addOld 103 = .ok (.istore 10, 2) := by decide +kernel
theorem d_Merge_addOld_105 : decode b_Merge_addOld 105 = .ok (.iload 5, 2) := by decide +kernel
theorem d_Merge_addOld_107 : decode b_Merge_addOld 107 = .ok (.bipush (-6), 2) := by decide +kernel
theorem d_Merge_addOld_109 : decode b_Merge_addOld 109 = .ok (.if_icmp .ne 8, 3) := by decide +kernel
theorem d_Merge_addOld_112 : decode b_Merge_addOld 112 = .ok (.iload 8, 2) := by decide +kernel
theorem d_Merge_addOld_114 : decode b_Merge_addOld 114 = .ok (.goto 12, 3) := by decide +kernel
theorem d_Merge_addOld_117 : decode b_Merge_addOld 117 = .ok (.aload_n 1, 1) := by decide +kernel
theorem d_Merge_addOld_118 : decode b_Merge_addOld 118 = .ok (.getfield 101, 3) := by decide +kernel
theorem d_Merge_addOld_121 : decode b_Merge_addOld 121 = .ok (.iload 5, 2) := by decide +kernel
theorem d_Merge_addOld_123 : decode b_Merge_addOld 123 = .ok (.invokevirtual 98, 3) := by decide +kernel
theorem d_Merge_addOld_126 : decode b_Merge_addOld 126 = .ok (.istore 11, 2) := by decide +kernel
theorem d_Merge_addOld_128 : decode b_Merge_addOld 128 = .ok (.iload 6, 2) := by decide +kernel
theorem d_Merge_addOld_130 : decode b_Merge_addOld 130 = .ok (.bipush (-6), 2) := by decide +kernel
theorem d_Merge_addOld_132 : decode b_Merge_addOld 132 = .ok (.if_icmp .ne 8, 3) := by decide +kernel
theorem d_Merge_addOld_135 : decode b_Merge_addOld 135 = .ok (.iload 8, 2) := by decide +kernel
theorem d_Merge_addOld_137 : decode b_Merge_addOld 137 = .ok (.goto 12, 3) := by decide +kernel
theorem d_Merge_addOld_140 : decode b_Merge_addOld 140 = .ok (.aload_n 1, 1) := by decide +kernel
theorem d_Merge_addOld_141 : decode b_Merge_addOld 141 = .ok (.getfield 70, 3) := by decide +kernel
theorem d_Merge_addOld_144 : decode b_Merge_addOld 144 = .ok (.iload 6, 2) := by decide +kernel
theorem d_Merge_addOld_146 : decode b_Merge_addOld 146 = .ok (.invokevirtual 98, 3) := by decide +kernel
theorem d_Merge_addOld_149 : decode b_Merge_addOld 149 = .ok (.istore 12, 2) := by decide +kernel
theorem d_Merge_addOld_151 : decode b_Merge_addOld 151 = .ok (.iconst 0, 1) := by decide +kernel
theorem d_Merge_addOld_152 : decode b_Merge_addOld 152 = .ok (.istore 13, 2) := by decide +kernel
theorem d_Merge_addOld_154 : decode b_Merge_addOld 154 = .ok (.iload 5, 2) := by decide +kernel
theorem d_Merge_addOld_156 : decode b_Merge_addOld 156 = .ok (.bipush (-6), 2) := by decide +kernel
theorem d_Merge_addOld_158 : decode b_Merge_addOld 158 = .ok (.if_icmp .eq 10, 3) := by decide +kernel
theorem d_Merge_addOld_161 : decode b_Merge_addOld 161 = .ok (.iload 6, 2) := by decide +kernel
theorem d_Merge_addOld_163 : decode b_Merge_addOld 163 = .ok (.bipush (-6), 2) := by decide +kernel
theorem d_Merge_addOld_165 : decode b_Merge_addOld 165 = .ok (.if_icmp .ne 21, 3) := by decide +kernel
theorem d_Merge_addOld_168 : decode b_Merge_addOld 168 = .ok (.iload 9, 2) := by decide +kernel
theorem d_Merge_addOld_170 : decode b_Merge_addOld 170 = .ok (.iload 10, 2) := by decide +kernel
theorem d_Merge_addOld_172 : decode b_Merge_addOld 172 = .ok (.if_icmp .ne 11, 3) := by decide +kernel
theorem d_Merge_addOld_175 : decode b_Merge_addOld 175 = .ok (.iload 11, 2) := by decide +kernel
theorem d_Merge_addOld_177 : decode b_Merge_addOld 177 = .ok (.iload 12, 2) := by decide +kernel
theorem d_Merge_addOld_179 : decode b_Merge_addOld 179 = .ok (.if_icmp .ne 4, 3) := by decide +kernel
theorem d_Merge_addOld_182 : decode b_Merge_addOld 182 = .ok (.return_, 1) := by decide +kernel
theorem d_Merge_addOld_183 : decode b_Merge_addOld 183 = .ok (.iconst 2, 1) := by decide +kernel
theorem d_Merge_addOld_184 : decode b_Merge_addOld 184 = .ok (.istore 13, 2) := by decide +kernel
theorem d_Merge_addOld_186 : decode b_Merge_addOld 186 = .ok (.iload 13, 2) := by decide +kernel
theorem d_Merge_addOld_188 : decode b_Merge_addOld 188 = .ok (.iload 7, 2) := by decide +kernel
theorem d_Merge_addOld_190 : decode b_Merge_addOld 190 = .ok (.iload 9, 2) := by decide +kernel
theorem d_Merge_addOld_192 : decode b_Merge_addOld 192 = .ok (.iload 10, 2) := by decide +kernel
theorem d_Merge_addOld_194 : decode b_Merge_addOld 194 = .ok (.invokestatic 104, 3) := by decide +kernel
theorem d_Merge_addOld_197 : decode b_Merge_addOld 197 = .ok (.ifCond .eq 7, 3) := by decide +kernel
theorem d_Merge_addOld_200 : decode b_Merge_addOld 200 = .ok (.iconst 1, 1) := by decide +kernel
theorem d_Merge_addOld_201 : decode b_Merge_addOld 201 = .ok (.goto 4, 3) := by decide +kernel
theorem d_Merge_addOld_204 : decode b_Merge_addOld 204 = .ok (.iconst 0, 1) := by decide +kernel
theorem d_Merge_addOld_205 : decode b_Merge_addOld 205 = .ok (.ior, 1) := by decide +kernel
theorem d_Merge_addOld_206 : decode b_Merge_addOld 206 = .ok (.istore 13, 2) := by decide +kernel
theorem d_Merge_addOld_208 : decode b_Merge_addOld 208 = .ok (.iload 13, 2) := by decide +kernel
theorem d_Merge_addOld_210 : decode b_Merge_addOld 210 = .ok (.iload 8, 2) := by decide +kernel
theorem d_Merge_addOld_212 : decode b_Merge_addOld 212 = .ok (.iload 11, 2) := by decide +kernel
theorem d_Merge_addOld_214 : decode b_Merge_addOld 214 = .ok (.iload 12, 2) := by decide +kernel
theorem d_Merge_addOld_216 : decode b_Merge_addOld 216 = .ok (.invokestatic 108, 3) := by decide +kernel
theorem d_Merge_addOld_219 : decode b_Merge_addOld 219 = .ok (.ifCond .eq 7, 3) := by decide +kernel
theorem d_Merge_addOld_222 : decode b_Merge_addOld 222 = .ok (.iconst 4, 1) := by decide +kernel
theorem d_Merge_addOld_223 : decode b_Merge_addOld 223 = .ok (.goto 4, 3) := by decide +kernel
theorem d_Merge_addOld_226 : decode b_Merge_addOld 226 = .ok (.iconst 0, 1) := by decide +kernel
theorem d_Merge_addOld_227 : decode b_Merge_addOld 227 = .ok (.ior, 1) := by decide +kernel
theorem d_Merge_addOld_228 : decode b_Merge_addOld 228 = .ok (.istore 13, 2) := by decide +kernel
theorem d_Merge_addOld_230 : decode b_Merge_addOld 230 = .ok (.iload 7, 2) := by decide +kernel
theorem d_Merge_addOld_232 : decode b_Merge_addOld 232 = .ok (.iload 9, 2) := by decide +kernel
theorem d_Merge_addOld_234 : decode b_Merge_addOld 234 = .ok (.iload 10, 2) := by decide +kernel
theorem d_Merge_addOld_236 : decode b_Merge_addOld 236 = .ok (.aload_n 2, 1) := by decide +kernel
theorem d_Merge_addOld_237 : decode b_Merge_addOld 237 = .ok (.getfield 113, 3) := by decide +kernel
theorem d_Merge_addOld_240 : decode b_Merge_addOld 240 = .ok (.aload_n 3, 1) := by decide +kernel
theorem d_Merge_addOld_241 : decode b_Merge_addOld 241 = .ok (.getfield 113, 3) := by decide +kernel
theorem d_Merge_addOld_244 : decode b_Merge_addOld 244 = .ok (.invokestatic 117, 3) := by decide +kernel
theorem d_Merge_addOld_247 : decode b_Merge_addOld 247 = .ok (.istore 14, 2) := by decide +kernel
theorem d_Merge_addOld_249 : decode b_Merge_addOld 249 = .ok (.iload 7, 2) := by decide +kernel
theorem d_Merge_addOld_251 : decode b_Merge_addOld 251 = .ok (.invokestatic 121, 3) := by decide +kernel
theorem d_Merge_addOld_254 : decode b_Merge_addOld 254 = .ok (.iload 9, 2) := by decide +kernel
theorem d_Merge_addOld_256 : decode b_Merge_addOld 256 = .ok (.invokestatic 121, 3) := by decide +kernel
theorem d_Merge_addOld_259 : decode b_Merge_addOld 259 = .ok (.iload 10, 2) := by decide +kernel
theorem d_Merge_addOld_261 : decode b_Merge_addOld 261 = .ok (.invokestatic 121, 3) := by decide +kernel
theorem d_Merge_addOld_264 : decode b_Merge_addOld 264 = .ok (.invokestatic 126, 3) := by decide +kernel
theorem d_Merge_addOld_267 : decode b_Merge_addOld 267 = .ok (.istore 15, 2) := by decide +kernel
theorem d_Merge_addOld_269 : decode b_Merge_addOld 269 = .ok (.aload_n 0, 1) := by decide +kernel
theorem d_Merge_addOld_270 : decode b_Merge_addOld 270 = .ok (.bipush 10, 2) := by decide +kernel
theorem d_Merge_addOld_272 : decode b_Merge_addOld 272 = .ok (.iload 14, 2) := by decide +kernel
theorem d_Merge_addOld_274 : decode b_Merge_addOld 274 = .ok (.imul, 1) := by decide +kernel
theorem d_Merge_addOld_275 : decode b_Merge_addOld 275 = .ok (.iload 15, 2) := by decide +kernel
theorem d_Merge_addOld_277 : decode b_Merge_addOld 277 = .ok (.iadd, 1) := by decide +kernel
theorem d_Merge_addOld_278 : decode b_Merge_addOld 278 = .ok (.iload 8, 2) := by decide +kernel
theorem d_Merge_addOld_280 : decode b_Merge_addOld 280 = .ok (.iload 11, 2) := by decide +kernel
theorem d_Merge_addOld_282 : decode b_Merge_addOld 282 = .ok (.iload 12, 2) := by decide +kernel
theorem d_Merge_addOld_284 : decode b_Merge_addOld 284 = .ok (.invokestatic 130, 3) := by decide +kernel
theorem d_Merge_addOld_287 : decode b_Merge_addOld 287 = .ok (.iload 13, 2) := by decide +kernel
theorem d_Merge_addOld_289 : decode b_Merge_addOld 289 = .ok (.iload 4, 2) := by decide +kernel
theorem d_Merge_addOld_291 : decode b_Merge_addOld 291 = .ok (.invokevirtual 133, 3) := by decide +kernel
theorem d_Merge_addOld_294 : decode b_Merge_addOld 294 = .ok (.return_, 1) := by decide +kernel
def f_Merge_addOld_186 (h : Hp) (l0 : Nat) (l2 : Nat) (l3 : Nat) (l4 : Int32) (l7 : Int32) (l8 : Int32) (l9 : Int32) (l10 : Int32) (l11 : Int32) (l12 : Int32) (l13 : Int32) : Option Hp :=
  (f_Merge_pathsClash l7 l9 l10).bind fun t21 =>
  (f_Three_contentsClash l8 l11 l12).bind fun t22 =>
  (gR h 6 l2 1).bind fun t23 =>
  (gR h 6 l3 1).bind fun t24 =>
  (f_Merge_joinFolders h l7 l9 l10 t23 t24).bind fun t25 =>
  (f_Letters_nameOf l7).bind fun t26 =>
  (f_Letters_nameOf l9).bind fun t27 =>
  (f_Letters_nameOf l10).bind fun t28 =>
  (f_Three_join t26 t27 t28).bind fun t29 =>
  (f_Three_joinContents l8 l11 l12).bind fun t30 =>
  (f_Merge_add h l0 (((10 : Int32) * t25) + t29) t30 ((l13 ||| (if t21 = (0 : Int32) then ((0 : Int32)) else ((1 : Int32)))) ||| (if t22 = (0 : Int32) then ((0 : Int32)) else ((4 : Int32)))) l4).bind fun h31 =>
  some h31
set_option maxHeartbeats 4000000 in
set_option maxRecDepth 100000 in
theorem t_Merge_addOld_186 {h : Hp} {l0 : Nat} {l2 : Nat} {l3 : Nat} {l4 : Int32} {l7 : Int32} {l8 : Int32} {l9 : Int32} {l10 : Int32} {l11 : Int32} {l12 : Int32} {l13 : Int32} {r : Hp} (C : Cx base D cI cZ b_Merge_addOld 16 "MovedFolders$Merge" "addOld" none p s m args meth c)  (hM : f_Merge_addOld_186 h l0 l2 l3 l4 l7 l8 l9 l10 l11 l12 l13 = some r) (H : Heap) (locs : List Loc) (ls : Array Slot) (hS : RS base D cI cZ s H locs h) (hl : lv_has ls 16 [(0, .ref (base + l0)), (2, .ref (base + l2)), (3, .ref (base + l3)), (4, .int l4), (7, .int l7), (8, .int l8), (9, .int l9), (10, .int l10), (11, .int l11), (12, .int l12), (13, .int l13)]) : Wg l base D cI cZ 3 78 0 0 r none p e s m args below meth c H locs 0 0 (F0 m 186 ls []) := by
  have hx := C.1
  have hb := C.2.1
  unfold f_Merge_addOld_186 at hM
  refine lv_iload hx hb d_Merge_addOld_186 (lv_at hl 10 rfl) ?_
  refine lv_iload hx hb d_Merge_addOld_188 (lv_at hl 4 rfl) ?_
  refine lv_iload hx hb d_Merge_addOld_190 (lv_at hl 6 rfl) ?_
  refine lv_iload hx hb d_Merge_addOld_192 (lv_at hl 7 rfl) ?_
  obtain ⟨t21, et21, hM⟩ := bS hM
  refine r_callSi (x := t21) C hS cs_Merge_104 (c_Merge_pathsClash l base D cI cZ h l7 l9 l10 et21) (rest := [.int l13]) rfl hl.1 rfl (Nat.le_of_ble_eq_true rfl) ⟨(Nat.le_of_ble_eq_true rfl), (Nat.le_of_ble_eq_true rfl)⟩ ⟨(Nat.le_of_ble_eq_true rfl), (Nat.le_of_ble_eq_true rfl)⟩ d_Merge_addOld_194 (fun H locs hS => ?_)
  have kJ205_12 : ∀ (H : Heap) (locs : List Loc) (ls : Array Slot), RS base D cI cZ s H locs h → lv_has ls 16 [(0, .ref (base + l0)), (2, .ref (base + l2)), (3, .ref (base + l3)), (4, .int l4), (7, .int l7), (8, .int l8), (9, .int l9), (10, .int l10), (11, .int l11), (12, .int l12)] → Wg l base D cI cZ 3 78 0 0 r none p e s m args below meth c H locs 0 0 (F0 m 205 ls [.int (if t21 = (0 : Int32) then ((0 : Int32)) else ((1 : Int32))), .int l13]) := by
    intro H locs ls hS hl
    refine lv_ior hx hb d_Merge_addOld_205 ?_
    refine lv_istore (lv' := [(13, .int (l13 ||| (if t21 = (0 : Int32) then ((0 : Int32)) else ((1 : Int32))))), (0, .ref (base + l0)), (2, .ref (base + l2)), (3, .ref (base + l3)), (4, .int l4), (7, .int l7), (8, .int l8), (9, .int l9), (10, .int l10), (11, .int l11), (12, .int l12)]) hx hb d_Merge_addOld_206 hl (by decide) rfl (fun ls hl => ?_)
    refine lv_iload hx hb d_Merge_addOld_208 (lv_at hl 0 rfl) ?_
    refine lv_iload hx hb d_Merge_addOld_210 (lv_at hl 6 rfl) ?_
    refine lv_iload hx hb d_Merge_addOld_212 (lv_at hl 9 rfl) ?_
    refine lv_iload hx hb d_Merge_addOld_214 (lv_at hl 10 rfl) ?_
    obtain ⟨t22, et22, hM⟩ := bS hM
    refine r_callSi (x := t22) C hS cs_Merge_108 (c_Three_contentsClash l base D cI cZ h l8 l11 l12 et22) (rest := [.int (l13 ||| (if t21 = (0 : Int32) then ((0 : Int32)) else ((1 : Int32))))]) rfl hl.1 rfl (Nat.le_of_ble_eq_true rfl) ⟨(Nat.le_of_ble_eq_true rfl), (Nat.le_of_ble_eq_true rfl)⟩ ⟨(Nat.le_of_ble_eq_true rfl), (Nat.le_of_ble_eq_true rfl)⟩ d_Merge_addOld_216 (fun H locs hS => ?_)
    have kJ227_14 : ∀ (H : Heap) (locs : List Loc) (ls : Array Slot), RS base D cI cZ s H locs h → lv_has ls 16 [(0, .ref (base + l0)), (2, .ref (base + l2)), (3, .ref (base + l3)), (4, .int l4), (7, .int l7), (8, .int l8), (9, .int l9), (10, .int l10), (11, .int l11), (12, .int l12)] → Wg l base D cI cZ 3 78 0 0 r none p e s m args below meth c H locs 0 0 (F0 m 227 ls [.int (if t22 = (0 : Int32) then ((0 : Int32)) else ((4 : Int32))), .int (l13 ||| (if t21 = (0 : Int32) then ((0 : Int32)) else ((1 : Int32))))]) := by
      intro H locs ls hS hl
      refine lv_ior hx hb d_Merge_addOld_227 ?_
      refine lv_istore (lv' := [(13, .int ((l13 ||| (if t21 = (0 : Int32) then ((0 : Int32)) else ((1 : Int32)))) ||| (if t22 = (0 : Int32) then ((0 : Int32)) else ((4 : Int32))))), (0, .ref (base + l0)), (2, .ref (base + l2)), (3, .ref (base + l3)), (4, .int l4), (7, .int l7), (8, .int l8), (9, .int l9), (10, .int l10), (11, .int l11), (12, .int l12)]) hx hb d_Merge_addOld_228 hl (by decide) rfl (fun ls hl => ?_)
      refine lv_iload hx hb d_Merge_addOld_230 (lv_at hl 5 rfl) ?_
      refine lv_iload hx hb d_Merge_addOld_232 (lv_at hl 7 rfl) ?_
      refine lv_iload hx hb d_Merge_addOld_234 (lv_at hl 8 rfl) ?_
      refine lv_aload_n hx hb d_Merge_addOld_236 rfl (lv_at hl 2 rfl) ?_
      obtain ⟨t23, et23, hM⟩ := bS hM
      refine r_getR C hS fl_Merge_113 et23 d_Merge_addOld_237 ?_
      refine lv_aload_n hx hb d_Merge_addOld_240 rfl (lv_at hl 3 rfl) ?_
      obtain ⟨t24, et24, hM⟩ := bS hM
      refine r_getR C hS fl_Merge_113 et24 d_Merge_addOld_241 ?_
      obtain ⟨t25, et25, hM⟩ := bS hM
      refine r_callSi (x := t25) C hS cs_Merge_117 (c_Merge_joinFolders l base D cI cZ h l7 l9 l10 t23 t24 et25) (rest := []) rfl hl.1 rfl (Nat.le_of_ble_eq_true rfl) ⟨(Nat.le_of_ble_eq_true rfl), (Nat.le_of_ble_eq_true rfl)⟩ ⟨(Nat.le_of_ble_eq_true rfl), (Nat.le_of_ble_eq_true rfl)⟩ d_Merge_addOld_244 (fun H locs hS => ?_)
      refine lv_istore (lv' := [(14, .int t25), (13, .int ((l13 ||| (if t21 = (0 : Int32) then ((0 : Int32)) else ((1 : Int32)))) ||| (if t22 = (0 : Int32) then ((0 : Int32)) else ((4 : Int32))))), (0, .ref (base + l0)), (2, .ref (base + l2)), (3, .ref (base + l3)), (4, .int l4), (7, .int l7), (8, .int l8), (9, .int l9), (10, .int l10), (11, .int l11), (12, .int l12)]) hx hb d_Merge_addOld_247 hl (by decide) rfl (fun ls hl => ?_)
      refine lv_iload hx hb d_Merge_addOld_249 (lv_at hl 6 rfl) ?_
      obtain ⟨t26, et26, hM⟩ := bS hM
      refine r_callSi (x := t26) C hS cs_Merge_121 (c_Letters_nameOf l base D cI cZ h l7 et26) (rest := []) rfl hl.1 rfl (Nat.le_of_ble_eq_true rfl) ⟨(Nat.le_of_ble_eq_true rfl), (Nat.le_of_ble_eq_true rfl)⟩ ⟨(Nat.le_of_ble_eq_true rfl), (Nat.le_of_ble_eq_true rfl)⟩ d_Merge_addOld_251 (fun H locs hS => ?_)
      refine lv_iload hx hb d_Merge_addOld_254 (lv_at hl 8 rfl) ?_
      obtain ⟨t27, et27, hM⟩ := bS hM
      refine r_callSi (x := t27) C hS cs_Merge_121 (c_Letters_nameOf l base D cI cZ h l9 et27) (rest := [.int t26]) rfl hl.1 rfl (Nat.le_of_ble_eq_true rfl) ⟨(Nat.le_of_ble_eq_true rfl), (Nat.le_of_ble_eq_true rfl)⟩ ⟨(Nat.le_of_ble_eq_true rfl), (Nat.le_of_ble_eq_true rfl)⟩ d_Merge_addOld_256 (fun H locs hS => ?_)
      refine lv_iload hx hb d_Merge_addOld_259 (lv_at hl 9 rfl) ?_
      obtain ⟨t28, et28, hM⟩ := bS hM
      refine r_callSi (x := t28) C hS cs_Merge_121 (c_Letters_nameOf l base D cI cZ h l10 et28) (rest := [.int t27, .int t26]) rfl hl.1 rfl (Nat.le_of_ble_eq_true rfl) ⟨(Nat.le_of_ble_eq_true rfl), (Nat.le_of_ble_eq_true rfl)⟩ ⟨(Nat.le_of_ble_eq_true rfl), (Nat.le_of_ble_eq_true rfl)⟩ d_Merge_addOld_261 (fun H locs hS => ?_)
      obtain ⟨t29, et29, hM⟩ := bS hM
      refine r_callSi (x := t29) C hS cs_Merge_126 (c_Three_join l base D cI cZ h t26 t27 t28 et29) (rest := []) rfl hl.1 rfl (Nat.le_of_ble_eq_true rfl) ⟨(Nat.le_of_ble_eq_true rfl), (Nat.le_of_ble_eq_true rfl)⟩ ⟨(Nat.le_of_ble_eq_true rfl), (Nat.le_of_ble_eq_true rfl)⟩ d_Merge_addOld_264 (fun H locs hS => ?_)
      refine lv_istore (lv' := [(15, .int t29), (14, .int t25), (13, .int ((l13 ||| (if t21 = (0 : Int32) then ((0 : Int32)) else ((1 : Int32)))) ||| (if t22 = (0 : Int32) then ((0 : Int32)) else ((4 : Int32))))), (0, .ref (base + l0)), (2, .ref (base + l2)), (3, .ref (base + l3)), (4, .int l4), (7, .int l7), (8, .int l8), (9, .int l9), (10, .int l10), (11, .int l11), (12, .int l12)]) hx hb d_Merge_addOld_267 hl (by decide) rfl (fun ls hl => ?_)
      refine lv_aload_n hx hb d_Merge_addOld_269 rfl (lv_at hl 3 rfl) ?_
      refine lv_bipush (v := (10 : Int32)) hx hb d_Merge_addOld_270 (by decide) ?_
      refine lv_iload hx hb d_Merge_addOld_272 (lv_at hl 1 rfl) ?_
      refine lv_imul hx hb d_Merge_addOld_274 ?_
      refine lv_iload hx hb d_Merge_addOld_275 (lv_at hl 0 rfl) ?_
      refine lv_iadd hx hb d_Merge_addOld_277 ?_
      refine lv_iload hx hb d_Merge_addOld_278 (lv_at hl 8 rfl) ?_
      refine lv_iload hx hb d_Merge_addOld_280 (lv_at hl 11 rfl) ?_
      refine lv_iload hx hb d_Merge_addOld_282 (lv_at hl 12 rfl) ?_
      obtain ⟨t30, et30, hM⟩ := bS hM
      refine r_callSi (x := t30) C hS cs_Merge_130 (c_Three_joinContents l base D cI cZ h l8 l11 l12 et30) (rest := [.int (((10 : Int32) * t25) + t29), .ref (base + l0)]) rfl hl.1 rfl (Nat.le_of_ble_eq_true rfl) ⟨(Nat.le_of_ble_eq_true rfl), (Nat.le_of_ble_eq_true rfl)⟩ ⟨(Nat.le_of_ble_eq_true rfl), (Nat.le_of_ble_eq_true rfl)⟩ d_Merge_addOld_284 (fun H locs hS => ?_)
      refine lv_iload hx hb d_Merge_addOld_287 (lv_at hl 2 rfl) ?_
      refine lv_iload hx hb d_Merge_addOld_289 (lv_at hl 6 rfl) ?_
      obtain ⟨h31, eh31, hM⟩ := bS hM
      refine r_callVv C hS cv_Merge_133 (c_Merge_add l base D cI cZ h l0 (((10 : Int32) * t25) + t29) t30 ((l13 ||| (if t21 = (0 : Int32) then ((0 : Int32)) else ((1 : Int32)))) ||| (if t22 = (0 : Int32) then ((0 : Int32)) else ((4 : Int32)))) l4 eh31) (o_Merge_add eh31) (rest := []) rfl hl.1 rfl (Nat.le_of_ble_eq_true rfl) ⟨(Nat.le_of_ble_eq_true rfl), (Nat.le_of_ble_eq_true rfl)⟩ ⟨(Nat.le_of_ble_eq_true rfl), (Nat.le_of_ble_eq_true rfl)⟩ d_Merge_addOld_291 (fun H locs hS => ?_)
      obtain rfl := Option.some.inj hM
      exact r_vret C hS d_Merge_addOld_294
    refine lv_if_eq (tgt := 226) hx hb d_Merge_addOld_219 (by decide) (fun c219_15 => ?_) (fun c219_15 => ?_)
    · rw [if_pos c219_15] at kJ227_14
      refine lv_iconst (v := (0 : Int32)) hx hb d_Merge_addOld_226 (by decide) ?_
      exact kJ227_14 _ _ _ hS (lv_sub hl [1, 2, 3, 4, 5, 6, 7, 8, 9, 10] rfl)
    · rw [if_neg c219_15] at kJ227_14
      refine lv_iconst (v := (4 : Int32)) hx hb d_Merge_addOld_222 (by decide) ?_
      refine lv_goto (tgt := 227) hx hb d_Merge_addOld_223 (by decide) ?_
      exact kJ227_14 _ _ _ hS (lv_sub hl [1, 2, 3, 4, 5, 6, 7, 8, 9, 10] rfl)
  refine lv_if_eq (tgt := 204) hx hb d_Merge_addOld_197 (by decide) (fun c197_13 => ?_) (fun c197_13 => ?_)
  · rw [if_pos c197_13] at kJ205_12
    refine lv_iconst (v := (0 : Int32)) hx hb d_Merge_addOld_204 (by decide) ?_
    exact kJ205_12 _ _ _ hS (lv_sub hl [0, 1, 2, 3, 4, 5, 6, 7, 8, 9] rfl)
  · rw [if_neg c197_13] at kJ205_12
    refine lv_iconst (v := (1 : Int32)) hx hb d_Merge_addOld_200 (by decide) ?_
    refine lv_goto (tgt := 205) hx hb d_Merge_addOld_201 (by decide) ?_
    exact kJ205_12 _ _ _ hS (lv_sub hl [0, 1, 2, 3, 4, 5, 6, 7, 8, 9] rfl)
def f_Merge_addOld_183 (h : Hp) (l0 : Nat) (l2 : Nat) (l3 : Nat) (l4 : Int32) (l7 : Int32) (l8 : Int32) (l9 : Int32) (l10 : Int32) (l11 : Int32) (l12 : Int32) : Option Hp :=
  f_Merge_addOld_186 h l0 l2 l3 l4 l7 l8 l9 l10 l11 l12 (2 : Int32)
set_option maxHeartbeats 4000000 in
set_option maxRecDepth 100000 in
theorem t_Merge_addOld_183 {h : Hp} {l0 : Nat} {l2 : Nat} {l3 : Nat} {l4 : Int32} {l7 : Int32} {l8 : Int32} {l9 : Int32} {l10 : Int32} {l11 : Int32} {l12 : Int32} {r : Hp} (C : Cx base D cI cZ b_Merge_addOld 16 "MovedFolders$Merge" "addOld" none p s m args meth c)  (hM : f_Merge_addOld_183 h l0 l2 l3 l4 l7 l8 l9 l10 l11 l12 = some r) (H : Heap) (locs : List Loc) (ls : Array Slot) (hS : RS base D cI cZ s H locs h) (hl : lv_has ls 16 [(0, .ref (base + l0)), (2, .ref (base + l2)), (3, .ref (base + l3)), (4, .int l4), (7, .int l7), (8, .int l8), (9, .int l9), (10, .int l10), (11, .int l11), (12, .int l12)]) : Wg l base D cI cZ 3 78 0 0 r none p e s m args below meth c H locs 0 0 (F0 m 183 ls []) := by
  have hx := C.1
  have hb := C.2.1
  unfold f_Merge_addOld_183 at hM
  refine lv_iconst (v := (2 : Int32)) hx hb d_Merge_addOld_183 (by decide) ?_
  refine lv_istore (lv' := [(13, .int (2 : Int32)), (0, .ref (base + l0)), (2, .ref (base + l2)), (3, .ref (base + l3)), (4, .int l4), (7, .int l7), (8, .int l8), (9, .int l9), (10, .int l10), (11, .int l11), (12, .int l12)]) hx hb d_Merge_addOld_184 hl (by decide) rfl (fun ls hl => ?_)
  exact t_Merge_addOld_186  C  hM _ _ _ hS (lv_sub hl [1, 2, 3, 4, 5, 6, 7, 8, 9, 10, 0] rfl)
def f_Merge_addOld_168 (h : Hp) (l0 : Nat) (l2 : Nat) (l3 : Nat) (l4 : Int32) (l7 : Int32) (l8 : Int32) (l9 : Int32) (l10 : Int32) (l11 : Int32) (l12 : Int32) : Option Hp :=
  if l9 = l10 then (
    if l11 = l12 then (
      some h
    ) else (
      f_Merge_addOld_183 h l0 l2 l3 l4 l7 l8 l9 l10 l11 l12
    )
  ) else (
    f_Merge_addOld_183 h l0 l2 l3 l4 l7 l8 l9 l10 l11 l12
  )
set_option maxHeartbeats 4000000 in
set_option maxRecDepth 100000 in
theorem t_Merge_addOld_168 {h : Hp} {l0 : Nat} {l2 : Nat} {l3 : Nat} {l4 : Int32} {l7 : Int32} {l8 : Int32} {l9 : Int32} {l10 : Int32} {l11 : Int32} {l12 : Int32} {r : Hp} (C : Cx base D cI cZ b_Merge_addOld 16 "MovedFolders$Merge" "addOld" none p s m args meth c)  (hM : f_Merge_addOld_168 h l0 l2 l3 l4 l7 l8 l9 l10 l11 l12 = some r) (H : Heap) (locs : List Loc) (ls : Array Slot) (hS : RS base D cI cZ s H locs h) (hl : lv_has ls 16 [(0, .ref (base + l0)), (2, .ref (base + l2)), (3, .ref (base + l3)), (4, .int l4), (7, .int l7), (8, .int l8), (9, .int l9), (10, .int l10), (11, .int l11), (12, .int l12)]) : Wg l base D cI cZ 3 78 0 0 r none p e s m args below meth c H locs 0 0 (F0 m 168 ls []) := by
  have hx := C.1
  have hb := C.2.1
  unfold f_Merge_addOld_168 at hM
  refine lv_iload hx hb d_Merge_addOld_168 (lv_at hl 6 rfl) ?_
  refine lv_iload hx hb d_Merge_addOld_170 (lv_at hl 7 rfl) ?_
  refine lv_icmp_ne (tgt := 183) hx hb d_Merge_addOld_172 (by decide) (fun c172_11 => ?_) (fun c172_11 => ?_)
  · rw [if_neg c172_11] at hM
    exact t_Merge_addOld_183  C  hM _ _ _ hS (lv_sub hl [0, 1, 2, 3, 4, 5, 6, 7, 8, 9] rfl)
  · rw [if_pos c172_11] at hM
    refine lv_iload hx hb d_Merge_addOld_175 (lv_at hl 8 rfl) ?_
    refine lv_iload hx hb d_Merge_addOld_177 (lv_at hl 9 rfl) ?_
    refine lv_icmp_ne (tgt := 183) hx hb d_Merge_addOld_179 (by decide) (fun c179_16 => ?_) (fun c179_16 => ?_)
    · rw [if_neg c179_16] at hM
      exact t_Merge_addOld_183  C  hM _ _ _ hS (lv_sub hl [0, 1, 2, 3, 4, 5, 6, 7, 8, 9] rfl)
    · rw [if_pos c179_16] at hM
      obtain rfl := Option.some.inj hM
      exact r_vret C hS d_Merge_addOld_182
def f_Merge_addOld_37 (h : Hp) (l0 : Nat) (l1 : Nat) (l2 : Nat) (l3 : Nat) (l4 : Int32) (l5 : Int32) (l6 : Int32) : Option Hp :=
  (gR h 0 l1 0).bind fun t5 =>
  (f_Tree_pathAt h t5 l4).bind fun t6 =>
  (gR h 0 l1 0).bind fun t7 =>
  (f_Tree_contentAt h t7 l4).bind fun t8 =>
  (
    if l5 = (-6 : Int32) then (
      some t6
    ) else (
      (gR h 0 l1 1).bind fun t10 =>
      (f_Tree_pathAt h t10 l5).bind fun t11 =>
      some t11
    )
  ).bind fun t9 =>
  (
    if l6 = (-6 : Int32) then (
      some t6
    ) else (
      (gR h 0 l1 2).bind fun t13 =>
      (f_Tree_pathAt h t13 l6).bind fun t14 =>
      some t14
    )
  ).bind fun t12 =>
  (
    if l5 = (-6 : Int32) then (
      some t8
    ) else (
      (gR h 0 l1 1).bind fun t16 =>
      (f_Tree_contentAt h t16 l5).bind fun t17 =>
      some t17
    )
  ).bind fun t15 =>
  (
    if l6 = (-6 : Int32) then (
      some t8
    ) else (
      (gR h 0 l1 2).bind fun t19 =>
      (f_Tree_contentAt h t19 l6).bind fun t20 =>
      some t20
    )
  ).bind fun t18 =>
  if l5 = (-6 : Int32) then (
    f_Merge_addOld_168 h l0 l2 l3 l4 t6 t8 t9 t12 t15 t18
  ) else (
    if l6 = (-6 : Int32) then (
      f_Merge_addOld_168 h l0 l2 l3 l4 t6 t8 t9 t12 t15 t18
    ) else (
      f_Merge_addOld_186 h l0 l2 l3 l4 t6 t8 t9 t12 t15 t18 (0 : Int32)
    )
  )
set_option maxHeartbeats 4000000 in
set_option maxRecDepth 100000 in
theorem t_Merge_addOld_37 {h : Hp} {l0 : Nat} {l1 : Nat} {l2 : Nat} {l3 : Nat} {l4 : Int32} {l5 : Int32} {l6 : Int32} {r : Hp} (C : Cx base D cI cZ b_Merge_addOld 16 "MovedFolders$Merge" "addOld" none p s m args meth c)  (hM : f_Merge_addOld_37 h l0 l1 l2 l3 l4 l5 l6 = some r) (H : Heap) (locs : List Loc) (ls : Array Slot) (hS : RS base D cI cZ s H locs h) (hl : lv_has ls 16 [(0, .ref (base + l0)), (1, .ref (base + l1)), (2, .ref (base + l2)), (3, .ref (base + l3)), (4, .int l4), (5, .int l5), (6, .int l6)]) : Wg l base D cI cZ 3 78 0 0 r none p e s m args below meth c H locs 0 0 (F0 m 37 ls []) := by
  have hx := C.1
  have hb := C.2.1
  unfold f_Merge_addOld_37 at hM
  refine lv_aload_n hx hb d_Merge_addOld_37 rfl (lv_at hl 1 rfl) ?_
  obtain ⟨t5, et5, hM⟩ := bS hM
  refine r_getR C hS fl_Merge_49 et5 d_Merge_addOld_38 ?_
  refine lv_iload hx hb d_Merge_addOld_41 (lv_at hl 4 rfl) ?_
  obtain ⟨t6, et6, hM⟩ := bS hM
  refine r_callVi (x := t6) C hS cv_Merge_95 (c_Tree_pathAt l base D cI cZ h t5 l4 et6) (o_Tree_pathAt et6) (rest := []) rfl hl.1 rfl (Nat.le_of_ble_eq_true rfl) ⟨(Nat.le_of_ble_eq_true rfl), (Nat.le_of_ble_eq_true rfl)⟩ ⟨(Nat.le_of_ble_eq_true rfl), (Nat.le_of_ble_eq_true rfl)⟩ d_Merge_addOld_43 (fun H locs hS => ?_)
  refine lv_istore (lv' := [(7, .int t6), (0, .ref (base + l0)), (1, .ref (base + l1)), (2, .ref (base + l2)), (3, .ref (base + l3)), (4, .int l4), (5, .int l5), (6, .int l6)]) hx hb d_Merge_addOld_46 hl (by decide) rfl (fun ls hl => ?_)
  refine lv_aload_n hx hb d_Merge_addOld_48 rfl (lv_at hl 2 rfl) ?_
  obtain ⟨t7, et7, hM⟩ := bS hM
  refine r_getR C hS fl_Merge_49 et7 d_Merge_addOld_49 ?_
  refine lv_iload hx hb d_Merge_addOld_52 (lv_at hl 5 rfl) ?_
  obtain ⟨t8, et8, hM⟩ := bS hM
  refine r_callVi (x := t8) C hS cv_Merge_98 (c_Tree_contentAt l base D cI cZ h t7 l4 et8) (o_Tree_contentAt et8) (rest := []) rfl hl.1 rfl (Nat.le_of_ble_eq_true rfl) ⟨(Nat.le_of_ble_eq_true rfl), (Nat.le_of_ble_eq_true rfl)⟩ ⟨(Nat.le_of_ble_eq_true rfl), (Nat.le_of_ble_eq_true rfl)⟩ d_Merge_addOld_54 (fun H locs hS => ?_)
  refine lv_istore (lv' := [(8, .int t8), (7, .int t6), (0, .ref (base + l0)), (1, .ref (base + l1)), (2, .ref (base + l2)), (3, .ref (base + l3)), (4, .int l4), (5, .int l5), (6, .int l6)]) hx hb d_Merge_addOld_57 hl (by decide) rfl (fun ls hl => ?_)
  refine lv_iload hx hb d_Merge_addOld_59 (lv_at hl 7 rfl) ?_
  refine lv_bipush (v := (-6 : Int32)) hx hb d_Merge_addOld_61 (by decide) ?_
  obtain ⟨t9, et9, hM⟩ := bS hM
  have kJ80_2 : ∀ (H : Heap) (locs : List Loc) (ls : Array Slot), RS base D cI cZ s H locs h → lv_has ls 16 [(0, .ref (base + l0)), (1, .ref (base + l1)), (2, .ref (base + l2)), (3, .ref (base + l3)), (4, .int l4), (5, .int l5), (6, .int l6), (7, .int t6), (8, .int t8)] → Wg l base D cI cZ 3 78 0 0 r none p e s m args below meth c H locs 0 0 (F0 m 80 ls [.int t9]) := by
    intro H locs ls hS hl
    refine lv_istore (lv' := [(9, .int t9), (0, .ref (base + l0)), (1, .ref (base + l1)), (2, .ref (base + l2)), (3, .ref (base + l3)), (4, .int l4), (5, .int l5), (6, .int l6), (7, .int t6), (8, .int t8)]) hx hb d_Merge_addOld_80 hl (by decide) rfl (fun ls hl => ?_)
    refine lv_iload hx hb d_Merge_addOld_82 (lv_at hl 7 rfl) ?_
    refine lv_bipush (v := (-6 : Int32)) hx hb d_Merge_addOld_84 (by decide) ?_
    obtain ⟨t12, et12, hM⟩ := bS hM
    have kJ103_4 : ∀ (H : Heap) (locs : List Loc) (ls : Array Slot), RS base D cI cZ s H locs h → lv_has ls 16 [(0, .ref (base + l0)), (1, .ref (base + l1)), (2, .ref (base + l2)), (3, .ref (base + l3)), (4, .int l4), (5, .int l5), (6, .int l6), (7, .int t6), (8, .int t8), (9, .int t9)] → Wg l base D cI cZ 3 78 0 0 r none p e s m args below meth c H locs 0 0 (F0 m 103 ls [.int t12]) := by
      intro H locs ls hS hl
      refine lv_istore (lv' := [(10, .int t12), (0, .ref (base + l0)), (1, .ref (base + l1)), (2, .ref (base + l2)), (3, .ref (base + l3)), (4, .int l4), (5, .int l5), (6, .int l6), (7, .int t6), (8, .int t8), (9, .int t9)]) hx hb d_Merge_addOld_103 hl (by decide) rfl (fun ls hl => ?_)
      refine lv_iload hx hb d_Merge_addOld_105 (lv_at hl 6 rfl) ?_
      refine lv_bipush (v := (-6 : Int32)) hx hb d_Merge_addOld_107 (by decide) ?_
      obtain ⟨t15, et15, hM⟩ := bS hM
      have kJ126_6 : ∀ (H : Heap) (locs : List Loc) (ls : Array Slot), RS base D cI cZ s H locs h → lv_has ls 16 [(0, .ref (base + l0)), (1, .ref (base + l1)), (2, .ref (base + l2)), (3, .ref (base + l3)), (4, .int l4), (5, .int l5), (6, .int l6), (7, .int t6), (8, .int t8), (9, .int t9), (10, .int t12)] → Wg l base D cI cZ 3 78 0 0 r none p e s m args below meth c H locs 0 0 (F0 m 126 ls [.int t15]) := by
        intro H locs ls hS hl
        refine lv_istore (lv' := [(11, .int t15), (0, .ref (base + l0)), (1, .ref (base + l1)), (2, .ref (base + l2)), (3, .ref (base + l3)), (4, .int l4), (5, .int l5), (6, .int l6), (7, .int t6), (8, .int t8), (9, .int t9), (10, .int t12)]) hx hb d_Merge_addOld_126 hl (by decide) rfl (fun ls hl => ?_)
        refine lv_iload hx hb d_Merge_addOld_128 (lv_at hl 7 rfl) ?_
        refine lv_bipush (v := (-6 : Int32)) hx hb d_Merge_addOld_130 (by decide) ?_
        obtain ⟨t18, et18, hM⟩ := bS hM
        have kJ149_8 : ∀ (H : Heap) (locs : List Loc) (ls : Array Slot), RS base D cI cZ s H locs h → lv_has ls 16 [(0, .ref (base + l0)), (2, .ref (base + l2)), (3, .ref (base + l3)), (4, .int l4), (5, .int l5), (6, .int l6), (7, .int t6), (8, .int t8), (9, .int t9), (10, .int t12), (11, .int t15)] → Wg l base D cI cZ 3 78 0 0 r none p e s m args below meth c H locs 0 0 (F0 m 149 ls [.int t18]) := by
          intro H locs ls hS hl
          refine lv_istore (lv' := [(12, .int t18), (0, .ref (base + l0)), (2, .ref (base + l2)), (3, .ref (base + l3)), (4, .int l4), (5, .int l5), (6, .int l6), (7, .int t6), (8, .int t8), (9, .int t9), (10, .int t12), (11, .int t15)]) hx hb d_Merge_addOld_149 hl (by decide) rfl (fun ls hl => ?_)
          refine lv_iconst (v := (0 : Int32)) hx hb d_Merge_addOld_151 (by decide) ?_
          refine lv_istore (lv' := [(13, .int (0 : Int32)), (12, .int t18), (0, .ref (base + l0)), (2, .ref (base + l2)), (3, .ref (base + l3)), (4, .int l4), (5, .int l5), (6, .int l6), (7, .int t6), (8, .int t8), (9, .int t9), (10, .int t12), (11, .int t15)]) hx hb d_Merge_addOld_152 hl (by decide) rfl (fun ls hl => ?_)
          refine lv_iload hx hb d_Merge_addOld_154 (lv_at hl 6 rfl) ?_
          refine lv_bipush (v := (-6 : Int32)) hx hb d_Merge_addOld_156 (by decide) ?_
          refine lv_icmp_eq (tgt := 168) hx hb d_Merge_addOld_158 (by decide) (fun c158_10 => ?_) (fun c158_10 => ?_)
          · rw [if_pos c158_10] at hM
            exact t_Merge_addOld_168  C  hM _ _ _ hS (lv_sub hl [2, 3, 4, 5, 8, 9, 10, 11, 12, 1] rfl)
          · rw [if_neg c158_10] at hM
            refine lv_iload hx hb d_Merge_addOld_161 (lv_at hl 7 rfl) ?_
            refine lv_bipush (v := (-6 : Int32)) hx hb d_Merge_addOld_163 (by decide) ?_
            refine lv_icmp_ne (tgt := 186) hx hb d_Merge_addOld_165 (by decide) (fun c165_17 => ?_) (fun c165_17 => ?_)
            · rw [if_neg c165_17] at hM
              exact t_Merge_addOld_186  C  hM _ _ _ hS (lv_sub hl [2, 3, 4, 5, 8, 9, 10, 11, 12, 1, 0] rfl)
            · rw [if_pos c165_17] at hM
              exact t_Merge_addOld_168  C  hM _ _ _ hS (lv_sub hl [2, 3, 4, 5, 8, 9, 10, 11, 12, 1] rfl)
        refine lv_icmp_ne (tgt := 140) hx hb d_Merge_addOld_132 (by decide) (fun c132_9 => ?_) (fun c132_9 => ?_)
        · rw [if_neg c132_9] at et18
          refine lv_aload_n hx hb d_Merge_addOld_140 rfl (lv_at hl 2 rfl) ?_
          obtain ⟨t19, et19, et18⟩ := bS et18
          refine r_getR C hS fl_Merge_70 et19 d_Merge_addOld_141 ?_
          refine lv_iload hx hb d_Merge_addOld_144 (lv_at hl 7 rfl) ?_
          obtain ⟨t20, et20, et18⟩ := bS et18
          refine r_callVi (x := t20) C hS cv_Merge_98 (c_Tree_contentAt l base D cI cZ h t19 l6 et20) (o_Tree_contentAt et20) (rest := []) rfl hl.1 rfl (Nat.le_of_ble_eq_true rfl) ⟨(Nat.le_of_ble_eq_true rfl), (Nat.le_of_ble_eq_true rfl)⟩ ⟨(Nat.le_of_ble_eq_true rfl), (Nat.le_of_ble_eq_true rfl)⟩ d_Merge_addOld_146 (fun H locs hS => ?_)
          obtain rfl := Option.some.inj et18
          exact kJ149_8 _ _ _ hS (lv_sub hl [1, 3, 4, 5, 6, 7, 8, 9, 10, 11, 0] rfl)
        · rw [if_pos c132_9] at et18
          refine lv_iload hx hb d_Merge_addOld_135 (lv_at hl 9 rfl) ?_
          refine lv_goto (tgt := 149) hx hb d_Merge_addOld_137 (by decide) ?_
          obtain rfl := Option.some.inj et18
          exact kJ149_8 _ _ _ hS (lv_sub hl [1, 3, 4, 5, 6, 7, 8, 9, 10, 11, 0] rfl)
      refine lv_icmp_ne (tgt := 117) hx hb d_Merge_addOld_109 (by decide) (fun c109_7 => ?_) (fun c109_7 => ?_)
      · rw [if_neg c109_7] at et15
        refine lv_aload_n hx hb d_Merge_addOld_117 rfl (lv_at hl 2 rfl) ?_
        obtain ⟨t16, et16, et15⟩ := bS et15
        refine r_getR C hS fl_Merge_101 et16 d_Merge_addOld_118 ?_
        refine lv_iload hx hb d_Merge_addOld_121 (lv_at hl 6 rfl) ?_
        obtain ⟨t17, et17, et15⟩ := bS et15
        refine r_callVi (x := t17) C hS cv_Merge_98 (c_Tree_contentAt l base D cI cZ h t16 l5 et17) (o_Tree_contentAt et17) (rest := []) rfl hl.1 rfl (Nat.le_of_ble_eq_true rfl) ⟨(Nat.le_of_ble_eq_true rfl), (Nat.le_of_ble_eq_true rfl)⟩ ⟨(Nat.le_of_ble_eq_true rfl), (Nat.le_of_ble_eq_true rfl)⟩ d_Merge_addOld_123 (fun H locs hS => ?_)
        obtain rfl := Option.some.inj et15
        exact kJ126_6 _ _ _ hS (lv_sub hl [1, 2, 3, 4, 5, 6, 7, 8, 9, 10, 0] rfl)
      · rw [if_pos c109_7] at et15
        refine lv_iload hx hb d_Merge_addOld_112 (lv_at hl 9 rfl) ?_
        refine lv_goto (tgt := 126) hx hb d_Merge_addOld_114 (by decide) ?_
        obtain rfl := Option.some.inj et15
        exact kJ126_6 _ _ _ hS (lv_sub hl [1, 2, 3, 4, 5, 6, 7, 8, 9, 10, 0] rfl)
    refine lv_icmp_ne (tgt := 94) hx hb d_Merge_addOld_86 (by decide) (fun c86_5 => ?_) (fun c86_5 => ?_)
    · rw [if_neg c86_5] at et12
      refine lv_aload_n hx hb d_Merge_addOld_94 rfl (lv_at hl 2 rfl) ?_
      obtain ⟨t13, et13, et12⟩ := bS et12
      refine r_getR C hS fl_Merge_70 et13 d_Merge_addOld_95 ?_
      refine lv_iload hx hb d_Merge_addOld_98 (lv_at hl 7 rfl) ?_
      obtain ⟨t14, et14, et12⟩ := bS et12
      refine r_callVi (x := t14) C hS cv_Merge_95 (c_Tree_pathAt l base D cI cZ h t13 l6 et14) (o_Tree_pathAt et14) (rest := []) rfl hl.1 rfl (Nat.le_of_ble_eq_true rfl) ⟨(Nat.le_of_ble_eq_true rfl), (Nat.le_of_ble_eq_true rfl)⟩ ⟨(Nat.le_of_ble_eq_true rfl), (Nat.le_of_ble_eq_true rfl)⟩ d_Merge_addOld_100 (fun H locs hS => ?_)
      obtain rfl := Option.some.inj et12
      exact kJ103_4 _ _ _ hS (lv_sub hl [1, 2, 3, 4, 5, 6, 7, 8, 9, 0] rfl)
    · rw [if_pos c86_5] at et12
      refine lv_iload hx hb d_Merge_addOld_89 (lv_at hl 8 rfl) ?_
      refine lv_goto (tgt := 103) hx hb d_Merge_addOld_91 (by decide) ?_
      obtain rfl := Option.some.inj et12
      exact kJ103_4 _ _ _ hS (lv_sub hl [1, 2, 3, 4, 5, 6, 7, 8, 9, 0] rfl)
  refine lv_icmp_ne (tgt := 71) hx hb d_Merge_addOld_63 (by decide) (fun c63_3 => ?_) (fun c63_3 => ?_)
  · rw [if_neg c63_3] at et9
    refine lv_aload_n hx hb d_Merge_addOld_71 rfl (lv_at hl 3 rfl) ?_
    obtain ⟨t10, et10, et9⟩ := bS et9
    refine r_getR C hS fl_Merge_101 et10 d_Merge_addOld_72 ?_
    refine lv_iload hx hb d_Merge_addOld_75 (lv_at hl 7 rfl) ?_
    obtain ⟨t11, et11, et9⟩ := bS et9
    refine r_callVi (x := t11) C hS cv_Merge_95 (c_Tree_pathAt l base D cI cZ h t10 l5 et11) (o_Tree_pathAt et11) (rest := []) rfl hl.1 rfl (Nat.le_of_ble_eq_true rfl) ⟨(Nat.le_of_ble_eq_true rfl), (Nat.le_of_ble_eq_true rfl)⟩ ⟨(Nat.le_of_ble_eq_true rfl), (Nat.le_of_ble_eq_true rfl)⟩ d_Merge_addOld_77 (fun H locs hS => ?_)
    obtain rfl := Option.some.inj et9
    exact kJ80_2 _ _ _ hS (lv_sub hl [2, 3, 4, 5, 6, 7, 8, 1, 0] rfl)
  · rw [if_pos c63_3] at et9
    refine lv_iload hx hb d_Merge_addOld_66 (lv_at hl 1 rfl) ?_
    refine lv_goto (tgt := 80) hx hb d_Merge_addOld_68 (by decide) ?_
    obtain rfl := Option.some.inj et9
    exact kJ80_2 _ _ _ hS (lv_sub hl [2, 3, 4, 5, 6, 7, 8, 1, 0] rfl)
def f_Merge_addOld (h : Hp) (l0 : Nat) (l1 : Nat) (l2 : Nat) (l3 : Nat) (l4 : Int32) : Option Hp :=
  ck h 2 l0 (
    (gR h 6 l2 0).bind fun t1 =>
    (f_Pairs_mateOf h t1 l4).bind fun t2 =>
    (gR h 6 l3 0).bind fun t3 =>
    (f_Pairs_mateOf h t3 l4).bind fun t4 =>
    if t2 = (-6 : Int32) then (
      if t4 = (-6 : Int32) then (
        some h
      ) else (
        f_Merge_addOld_37 h l0 l1 l2 l3 l4 t2 t4
      )
    ) else (
      f_Merge_addOld_37 h l0 l1 l2 l3 l4 t2 t4
    )
  )
theorem o_Merge_addOld {h : Hp} {l0 : Nat} {l1 : Nat} {l2 : Nat} {l3 : Nat} {l4 : Int32} {r : Hp} (hM : f_Merge_addOld h l0 l1 l2 l3 l4 = some r) : isO h 2 l0 = true := by
  unfold f_Merge_addOld at hM
  exact (ck_some hM).1
set_option maxHeartbeats 4000000 in
set_option maxRecDepth 100000 in
theorem t_Merge_addOld {h : Hp} {l0 : Nat} {l1 : Nat} {l2 : Nat} {l3 : Nat} {l4 : Int32} {r : Hp} (C : Cx base D cI cZ b_Merge_addOld 16 "MovedFolders$Merge" "addOld" none p s m args meth c) (hM : f_Merge_addOld h l0 l1 l2 l3 l4 = some r) (H : Heap) (locs : List Loc) (ls : Array Slot) (hS : RS base D cI cZ s H locs h) (hl : lv_has ls 16 [(0, .ref (base + l0)), (1, .ref (base + l1)), (2, .ref (base + l2)), (3, .ref (base + l3)), (4, .int l4)]) : Wg l base D cI cZ 3 78 0 0 r none p e s m args below meth c H locs 0 0 (F0 m 0 ls []) := by
  have hx := C.1
  have hb := C.2.1
  unfold f_Merge_addOld at hM
  replace hM := (ck_some hM).2
  refine lv_aload_n hx hb d_Merge_addOld_0 rfl (lv_at hl 2 rfl) ?_
  obtain ⟨t1, et1, hM⟩ := bS hM
  refine r_getR C hS fl_Merge_83 et1 d_Merge_addOld_1 ?_
  refine lv_iload hx hb d_Merge_addOld_4 (lv_at hl 4 rfl) ?_
  obtain ⟨t2, et2, hM⟩ := bS hM
  refine r_callVi (x := t2) C hS cv_Merge_89 (c_Pairs_mateOf l base D cI cZ h t1 l4 et2) (o_Pairs_mateOf et2) (rest := []) rfl hl.1 rfl (Nat.le_of_ble_eq_true rfl) ⟨(Nat.le_of_ble_eq_true rfl), (Nat.le_of_ble_eq_true rfl)⟩ ⟨(Nat.le_of_ble_eq_true rfl), (Nat.le_of_ble_eq_true rfl)⟩ d_Merge_addOld_6 (fun H locs hS => ?_)
  refine lv_istore (lv' := [(5, .int t2), (0, .ref (base + l0)), (1, .ref (base + l1)), (2, .ref (base + l2)), (3, .ref (base + l3)), (4, .int l4)]) hx hb d_Merge_addOld_9 hl (by decide) rfl (fun ls hl => ?_)
  refine lv_aload_n hx hb d_Merge_addOld_11 rfl (lv_at hl 4 rfl) ?_
  obtain ⟨t3, et3, hM⟩ := bS hM
  refine r_getR C hS fl_Merge_83 et3 d_Merge_addOld_12 ?_
  refine lv_iload hx hb d_Merge_addOld_15 (lv_at hl 5 rfl) ?_
  obtain ⟨t4, et4, hM⟩ := bS hM
  refine r_callVi (x := t4) C hS cv_Merge_89 (c_Pairs_mateOf l base D cI cZ h t3 l4 et4) (o_Pairs_mateOf et4) (rest := []) rfl hl.1 rfl (Nat.le_of_ble_eq_true rfl) ⟨(Nat.le_of_ble_eq_true rfl), (Nat.le_of_ble_eq_true rfl)⟩ ⟨(Nat.le_of_ble_eq_true rfl), (Nat.le_of_ble_eq_true rfl)⟩ d_Merge_addOld_17 (fun H locs hS => ?_)
  refine lv_istore (lv' := [(6, .int t4), (5, .int t2), (0, .ref (base + l0)), (1, .ref (base + l1)), (2, .ref (base + l2)), (3, .ref (base + l3)), (4, .int l4)]) hx hb d_Merge_addOld_20 hl (by decide) rfl (fun ls hl => ?_)
  refine lv_iload hx hb d_Merge_addOld_22 (lv_at hl 1 rfl) ?_
  refine lv_bipush (v := (-6 : Int32)) hx hb d_Merge_addOld_24 (by decide) ?_
  refine lv_icmp_ne (tgt := 37) hx hb d_Merge_addOld_26 (by decide) (fun c26_1 => ?_) (fun c26_1 => ?_)
  · rw [if_neg c26_1] at hM
    exact t_Merge_addOld_37  C  hM _ _ _ hS (lv_sub hl [2, 3, 4, 5, 6, 1, 0] rfl)
  · rw [if_pos c26_1] at hM
    refine lv_iload hx hb d_Merge_addOld_29 (lv_at hl 0 rfl) ?_
    refine lv_bipush (v := (-6 : Int32)) hx hb d_Merge_addOld_31 (by decide) ?_
    refine lv_icmp_ne (tgt := 37) hx hb d_Merge_addOld_33 (by decide) (fun c33_18 => ?_) (fun c33_18 => ?_)
    · rw [if_neg c33_18] at hM
      exact t_Merge_addOld_37  C  hM _ _ _ hS (lv_sub hl [2, 3, 4, 5, 6, 1, 0] rfl)
    · rw [if_pos c33_18] at hM
      obtain rfl := Option.some.inj hM
      exact r_vret C hS d_Merge_addOld_36
theorem c_Merge_addOld (l : Launch) (base : Nat) (D : va_G) (cI cZ : ClassId) (h : Hp) (l0 : Nat) (l1 : Nat) (l2 : Nat) (l3 : Nat) (l4 : Int32) {r : Hp} (hM : f_Merge_addOld h l0 l1 l2 l3 l4 = some r) : Ct l base D cI cZ y_Merge_addOld b_Merge_addOld 16 none 3 78 0 0 h [.ref (base + l0), .ref (base + l1), .ref (base + l2), .ref (base + l3), .int l4] r none :=
  ct_of (by decide) (Nat.le_of_ble_eq_true rfl) (fun p e s m below meth c ls C hS hl => t_Merge_addOld C hM _ _ _ hS hl)
theorem d_Pairs_sourceOf_0 : decode b_Pairs_sourceOf 0 = .ok (.iload_n 1, 1) := by decide +kernel
theorem d_Pairs_sourceOf_1 : decode b_Pairs_sourceOf 1 = .ok (.ifCond .lt 18, 3) := by decide +kernel
theorem d_Pairs_sourceOf_4 : decode b_Pairs_sourceOf 4 = .ok (.iload_n 1, 1) := by decide +kernel
theorem d_Pairs_sourceOf_5 : decode b_Pairs_sourceOf 5 = .ok (.bipush 12, 2) := by decide +kernel
theorem d_Pairs_sourceOf_7 : decode b_Pairs_sourceOf 7 = .ok (.if_icmp .ge 12, 3) := by decide +kernel
theorem d_Pairs_sourceOf_10 : decode b_Pairs_sourceOf 10 = .ok (.aload_n 0, 1) := by decide +kernel
theorem d_Pairs_sourceOf_11 : decode b_Pairs_sourceOf 11 = .ok (.getfield 18, 3) := by decide +kernel
theorem d_Pairs_sourceOf_14 : decode b_Pairs_sourceOf 14 = .ok (.iload_n 1, 1) := by decide +kernel
theorem d_Pairs_sourceOf_15 : decode b_Pairs_sourceOf 15 = .ok (.iaload, 1) := by decide +kernel
theorem d_Pairs_sourceOf_16 : decode b_Pairs_sourceOf 16 = .ok (.goto 5, 3) := by decide +kernel
theorem d_Pairs_sourceOf_19 : decode b_Pairs_sourceOf 19 = .ok (.bipush (-6), 2) := by decide +kernel
theorem d_Pairs_sourceOf_21 : decode b_Pairs_sourceOf 21 = .ok (.ireturn, 1) := by decide +kernel
def f_Pairs_sourceOf (h : Hp) (l0 : Nat) (l1 : Int32) : Option Int32 :=
  ck h 5 l0 (
    (
      if l1 < (0 : Int32) then (
        some (-6 : Int32)
      ) else (
        if (12 : Int32) ≤ l1 then (
          some (-6 : Int32)
        ) else (
          (gR h 5 l0 2).bind fun t2 =>
          (gA h false t2 l1).bind fun t3 =>
          some t3
        )
      )
    ).bind fun t1 =>
    some t1
  )
theorem o_Pairs_sourceOf {h : Hp} {l0 : Nat} {l1 : Int32} {r : Int32} (hM : f_Pairs_sourceOf h l0 l1 = some r) : isO h 5 l0 = true := by
  unfold f_Pairs_sourceOf at hM
  exact (ck_some hM).1
set_option maxHeartbeats 4000000 in
set_option maxRecDepth 100000 in
theorem t_Pairs_sourceOf {h : Hp} {l0 : Nat} {l1 : Int32} {r : Int32} (C : Cx base D cI cZ b_Pairs_sourceOf 2 "MovedFolders$Pairs" "sourceOf" (some .int) p s m args meth c) (hM : f_Pairs_sourceOf h l0 l1 = some r) (H : Heap) (locs : List Loc) (ls : Array Slot) (hS : RS base D cI cZ s H locs h) (hl : lv_has ls 2 [(0, .ref (base + l0)), (1, .int l1)]) : Wg l base D cI cZ 0 0 0 0 h (some (.int r)) p e s m args below meth c H locs 0 0 (F0 m 0 ls []) := by
  have hx := C.1
  have hb := C.2.1
  unfold f_Pairs_sourceOf at hM
  replace hM := (ck_some hM).2
  refine lv_iload_n hx hb d_Pairs_sourceOf_0 rfl (lv_at hl 1 rfl) ?_
  obtain ⟨t1, et1, hM⟩ := bS hM
  have kJ21_1 : ∀ (H : Heap) (locs : List Loc) (ls : Array Slot), RS base D cI cZ s H locs h → lv_has ls 2 [] → Wg l base D cI cZ 0 0 0 0 h (some (.int r)) p e s m args below meth c H locs 0 0 (F0 m 21 ls [.int t1]) := by
    intro H locs ls hS hl
    obtain rfl := Option.some.inj hM
    exact r_iret C hS d_Pairs_sourceOf_21
  refine lv_if_lt (tgt := 19) hx hb d_Pairs_sourceOf_1 (by decide) (fun c1_2 => ?_) (fun c1_2 => ?_)
  · rw [if_pos c1_2] at et1
    refine lv_bipush (v := (-6 : Int32)) hx hb d_Pairs_sourceOf_19 (by decide) ?_
    obtain rfl := Option.some.inj et1
    exact kJ21_1 _ _ _ hS (lv_sub hl [] rfl)
  · rw [if_neg c1_2] at et1
    refine lv_iload_n hx hb d_Pairs_sourceOf_4 rfl (lv_at hl 1 rfl) ?_
    refine lv_bipush (v := (12 : Int32)) hx hb d_Pairs_sourceOf_5 (by decide) ?_
    refine lv_icmp_ge (tgt := 19) hx hb d_Pairs_sourceOf_7 (by decide) (fun c7_3 => ?_) (fun c7_3 => ?_)
    · rw [if_pos c7_3] at et1
      refine lv_bipush (v := (-6 : Int32)) hx hb d_Pairs_sourceOf_19 (by decide) ?_
      obtain rfl := Option.some.inj et1
      exact kJ21_1 _ _ _ hS (lv_sub hl [] rfl)
    · rw [if_neg c7_3] at et1
      refine lv_aload_n hx hb d_Pairs_sourceOf_10 rfl (lv_at hl 0 rfl) ?_
      obtain ⟨t2, et2, et1⟩ := bS et1
      refine r_getR C hS fl_Pairs_18 et2 d_Pairs_sourceOf_11 ?_
      refine lv_iload_n hx hb d_Pairs_sourceOf_14 rfl (lv_at hl 1 rfl) ?_
      obtain ⟨t3, et3, et1⟩ := bS et1
      refine r_iald C hS et3 d_Pairs_sourceOf_15 ?_
      refine lv_goto (tgt := 21) hx hb d_Pairs_sourceOf_16 (by decide) ?_
      obtain rfl := Option.some.inj et1
      exact kJ21_1 _ _ _ hS (lv_sub hl [] rfl)
theorem c_Pairs_sourceOf (l : Launch) (base : Nat) (D : va_G) (cI cZ : ClassId) (h : Hp) (l0 : Nat) (l1 : Int32) {r : Int32} (hM : f_Pairs_sourceOf h l0 l1 = some r) : Ct l base D cI cZ y_Pairs_sourceOf b_Pairs_sourceOf 2 (some .int) 0 0 0 0 h [.ref (base + l0), .int l1] h (some (.int r)) :=
  ct_of (by decide) (Nat.le_of_ble_eq_true rfl) (fun p e s m below meth c ls C hS hl => t_Pairs_sourceOf C hM _ _ _ hS hl)
theorem d_Merge_newPath_0 : decode b_Merge_newPath 0 = .ok (.bipush 10, 2) := by decide +kernel
theorem d_Merge_newPath_2 : decode b_Merge_newPath 2 = .ok (.aload_n 1, 1) := by decide +kernel
theorem d_Merge_newPath_3 : decode b_Merge_newPath 3 = .ok (.iload_n 0, 1) := by decide +kernel
theorem d_Merge_newPath_4 : decode b_Merge_newPath 4 = .ok (.invokestatic 137, 3) := by decide +kernel
theorem d_Merge_newPath_7 : decode b_Merge_newPath 7 = .ok (.invokevirtual 143, 3) := by decide +kernel
theorem d_Merge_newPath_10 : decode b_Merge_newPath 10 = .ok (.imul, 1) := by decide +kernel
theorem d_Merge_newPath_11 : decode b_Merge_newPath 11 = .ok (.iload_n 0, 1) := by decide +kernel
theorem d_Merge_newPath_12 : decode b_Merge_newPath 12 = .ok (.invokestatic 121, 3) := by decide +kernel
theorem d_Merge_newPath_15 : decode b_Merge_newPath 15 = .ok (.iadd, 1) := by decide +kernel
theorem d_Merge_newPath_16 : decode b_Merge_newPath 16 = .ok (.ireturn, 1) := by decide +kernel
def f_Merge_newPath (h : Hp) (l0 : Int32) (l1 : Nat) : Option Int32 :=
  (f_Letters_folderOf l0).bind fun t1 =>
  (f_Moves_follow h l1 t1).bind fun t2 =>
  (f_Letters_nameOf l0).bind fun t3 =>
  some (((10 : Int32) * t2) + t3)
set_option maxHeartbeats 4000000 in
set_option maxRecDepth 100000 in
theorem t_Merge_newPath {h : Hp} {l0 : Int32} {l1 : Nat} {r : Int32} (C : Cx base D cI cZ b_Merge_newPath 2 "MovedFolders$Merge" "newPath" (some .int) p s m args meth c) (hM : f_Merge_newPath h l0 l1 = some r) (H : Heap) (locs : List Loc) (ls : Array Slot) (hS : RS base D cI cZ s H locs h) (hl : lv_has ls 2 [(0, .int l0), (1, .ref (base + l1))]) : Wg l base D cI cZ 2 51 0 0 h (some (.int r)) p e s m args below meth c H locs 0 0 (F0 m 0 ls []) := by
  have hx := C.1
  have hb := C.2.1
  unfold f_Merge_newPath at hM
  refine lv_bipush (v := (10 : Int32)) hx hb d_Merge_newPath_0 (by decide) ?_
  refine lv_aload_n hx hb d_Merge_newPath_2 rfl (lv_at hl 1 rfl) ?_
  refine lv_iload_n hx hb d_Merge_newPath_3 rfl (lv_at hl 0 rfl) ?_
  obtain ⟨t1, et1, hM⟩ := bS hM
  refine r_callSi (x := t1) C hS cs_Merge_137 (c_Letters_folderOf l base D cI cZ h l0 et1) (rest := [.ref (base + l1), .int (10 : Int32)]) rfl hl.1 rfl (Nat.le_of_ble_eq_true rfl) ⟨(Nat.le_of_ble_eq_true rfl), (Nat.le_of_ble_eq_true rfl)⟩ ⟨(Nat.le_of_ble_eq_true rfl), (Nat.le_of_ble_eq_true rfl)⟩ d_Merge_newPath_4 (fun H locs hS => ?_)
  obtain ⟨t2, et2, hM⟩ := bS hM
  refine r_callVi (x := t2) C hS cv_Merge_143 (c_Moves_follow l base D cI cZ h l1 t1 et2) (o_Moves_follow et2) (rest := [.int (10 : Int32)]) rfl hl.1 rfl (Nat.le_of_ble_eq_true rfl) ⟨(Nat.le_of_ble_eq_true rfl), (Nat.le_of_ble_eq_true rfl)⟩ ⟨(Nat.le_of_ble_eq_true rfl), (Nat.le_of_ble_eq_true rfl)⟩ d_Merge_newPath_7 (fun H locs hS => ?_)
  refine lv_imul hx hb d_Merge_newPath_10 ?_
  refine lv_iload_n hx hb d_Merge_newPath_11 rfl (lv_at hl 0 rfl) ?_
  obtain ⟨t3, et3, hM⟩ := bS hM
  refine r_callSi (x := t3) C hS cs_Merge_121 (c_Letters_nameOf l base D cI cZ h l0 et3) (rest := [.int ((10 : Int32) * t2)]) rfl hl.1 rfl (Nat.le_of_ble_eq_true rfl) ⟨(Nat.le_of_ble_eq_true rfl), (Nat.le_of_ble_eq_true rfl)⟩ ⟨(Nat.le_of_ble_eq_true rfl), (Nat.le_of_ble_eq_true rfl)⟩ d_Merge_newPath_12 (fun H locs hS => ?_)
  refine lv_iadd hx hb d_Merge_newPath_15 ?_
  obtain rfl := Option.some.inj hM
  exact r_iret C hS d_Merge_newPath_16
theorem c_Merge_newPath (l : Launch) (base : Nat) (D : va_G) (cI cZ : ClassId) (h : Hp) (l0 : Int32) (l1 : Nat) {r : Int32} (hM : f_Merge_newPath h l0 l1 = some r) : Ct l base D cI cZ y_Merge_newPath b_Merge_newPath 2 (some .int) 2 51 0 0 h [.int l0, .ref (base + l1)] h (some (.int r)) :=
  ct_of (by decide) (Nat.le_of_ble_eq_true rfl) (fun p e s m below meth c ls C hS hl => t_Merge_newPath C hM _ _ _ hS hl)
theorem d_Merge_findGoals_0 : decode b_Merge_findGoals 0 = .ok (.iconst 0, 1) := by decide +kernel
theorem d_Merge_findGoals_1 : decode b_Merge_findGoals 1 = .ok (.istore 4, 2) := by decide +kernel
theorem d_Merge_findGoals_3 : decode b_Merge_findGoals 3 = .ok (.iload 4, 2) := by decide +kernel
theorem d_Merge_findGoals_5 : decode b_Merge_findGoals 5 = .ok (.aload_n 1, 1) := by decide +kernel
theorem d_Merge_findGoals_6 : decode b_Merge_findGoals 6 = .ok (.getfield 70, 3) := by decide +kernel
theorem d_Merge_findGoals_9 : decode b_Merge_findGoals 9 = .ok (.invokevirtual 55, 3) := by decide +kernel
theorem d_Merge_findGoals_12 : decode b_Merge_findGoals 12 = .ok (.if_icmp .ge 63, 3) := by decide +kernel
theorem d_Merge_findGoals_15 : decode b_Merge_findGoals 15 = .ok (.aload_n 3, 1) := by decide +kernel
theorem d_Merge_findGoals_16 : decode b_Merge_findGoals 16 = .ok (.getfield 83, 3) := by decide +kernel
theorem d_Merge_findGoals_19 : decode b_Merge_findGoals 19 = .ok (.iload 4, 2) := by decide +kernel
theorem d_Merge_findGoals_21 : decode b_Merge_findGoals 21 = .ok (.invokevirtual 148, 3) := by decide +kernel
theorem d_Merge_findGoals_24 : decode b_Merge_findGoals 24 = .ok (.bipush (-6), 2) := by decide +kernel
theorem d_Merge_findGoals_26 : decode b_Merge_findGoals 26 = .ok (.if_icmp .ne 7, 3) := by decide +kernel
theorem d_Merge_findGoals_29 : decode b_Merge_findGoals 29 = .ok (.iconst 1, 1) := by decide +kernel
theorem d_Merge_findGoals_30 : decode b_Merge_findGoals 30 = .ok (.goto 4, 3) := by decide +kernel
theorem d_Merge_findGoals_33 : decode b_Merge_findGoals 33 = .ok (.iconst 0, 1) := by decide +kernel
theorem d_Merge_findGoals_34 : decode b_Merge_findGoals 34 = .ok (.istore 5, 2) := by decide +kernel
theorem d_Merge_findGoals_36 : decode b_Merge_findGoals 36 = .ok (.aload_n 0, 1) := by decide +kernel
theorem d_Merge_findGoals_37 : decode b_Merge_findGoals 37 = .ok (.getfield 37, 3) := by decide +kernel
theorem d_Merge_findGoals_40 : decode b_Merge_findGoals 40 = .ok (.iload 4, 2) := by decide +kernel
theorem d_Merge_findGoals_42 : decode b_Merge_findGoals 42 = .ok (.iload 5, 2) := by decide +kernel
theorem d_Merge_findGoals_44 : decode b_Merge_findGoals 44 = .ok (.ifCond .eq 22, 3) := by decide +kernel
theorem d_Merge_findGoals_47 : decode b_Merge_findGoals 47 = .ok (.aload_n 1, 1) := by decide +kernel
theorem d_Merge_findGoals_48 : decode b_Merge_findGoals 48 = .ok (.getfield 70, 3) := by decide +kernel
theorem d_Merge_findGoals_51 : decode b_Merge_findGoals 51 = .ok (.iload 4, 2) := by decide +kernel
theorem d_Merge_findGoals_53 : decode b_Merge_findGoals 53 = .ok (.invokevirtual 95, 3) := by decide +kernel
theorem d_Merge_findGoals_56 : decode b_Merge_findGoals 56 = .ok (.aload_n 2, 1) := by decide +kernel
theorem d_Merge_findGoals_57 : decode b_Merge_findGoals 57 = .ok (.getfield 113, 3) := by decide +kernel
theorem d_Merge_findGoals_60 : decode b_Merge_findGoals 60 = .ok (.invokestatic 151, 3) := by decide +kernel
theorem d_Merge_findGoals_63 : decode b_Merge_findGoals 63 = .ok (.goto 5, 3) := by decide +kernel
theorem d_Merge_findGoals_66 : decode b_Merge_findGoals 66 = .ok (.bipush (-6), 2) := by decide +kernel
theorem d_Merge_findGoals_68 : decode b_Merge_findGoals 68 = .ok (.iastore, 1) := by decide +kernel
theorem d_Merge_findGoals_69 : decode b_Merge_findGoals 69 = .ok (.iinc 4 1, 3) := by decide +kernel
theorem d_Merge_findGoals_72 : decode b_Merge_findGoals 72 = .ok (.goto (-69), 3) := by decide +kernel
theorem d_Merge_findGoals_75 : decode b_Merge_findGoals 75 = .ok (.return_, 1) := by decide +kernel
def f_Merge_findGoals_3 (l0 : Nat) (l1 : Nat) (l2 : Nat) (l3 : Nat) : Nat → Int32 → Hp → Option Hp
  | 0, _, _ => none
  | n + 1, l4, h =>
    (gR h 0 l1 2).bind fun t1 =>
    (f_Tree_size h t1).bind fun t2 =>
    if t2 ≤ l4 then (
      some h
    ) else (
      (gR h 6 l3 0).bind fun t3 =>
      (f_Pairs_sourceOf h t3 l4).bind fun t4 =>
      (gR h 2 l0 8).bind fun t5 =>
      (
        if (if t4 = (-6 : Int32) then ((1 : Int32)) else ((0 : Int32))) = (0 : Int32) then (
          some (-6 : Int32)
        ) else (
          (gR h 0 l1 2).bind fun t7 =>
          (f_Tree_pathAt h t7 l4).bind fun t8 =>
          (gR h 6 l2 1).bind fun t9 =>
          (f_Merge_newPath h t8 t9).bind fun t10 =>
          some t10
        )
      ).bind fun t6 =>
      (sA h t5 l4 t6).bind fun h11 =>
      f_Merge_findGoals_3 l0 l1 l2 l3 n (l4 + (1 : Int32)) h11
    )
set_option maxHeartbeats 4000000 in
set_option maxRecDepth 100000 in
theorem t_Merge_findGoals_3 {l0 : Nat} {l1 : Nat} {l2 : Nat} {l3 : Nat} {r : Hp} (C : Cx base D cI cZ b_Merge_findGoals 6 "MovedFolders$Merge" "findGoals" none p s m args meth c)  : ∀ (n : Nat) (l4 : Int32) (h : Hp), f_Merge_findGoals_3 l0 l1 l2 l3 n l4 h = some r → ∀ (H : Heap) (locs : List Loc) (ls : Array Slot), RS base D cI cZ s H locs h → lv_has ls 6 [(0, .ref (base + l0)), (1, .ref (base + l1)), (2, .ref (base + l2)), (3, .ref (base + l3)), (4, .int l4)] → Wg l base D cI cZ 3 72 0 0 r none p e s m args below meth c H locs 0 0 (F0 m 3 ls []) := by
  have hx := C.1
  have hb := C.2.1
  intro n
  induction n with
  | zero =>
    intro l4 h hM
    rw [f_Merge_findGoals_3] at hM
    cases hM
  | succ n ih =>
    intro l4 h hM H locs ls hS hl
    rw [f_Merge_findGoals_3] at hM
    refine lv_iload hx hb d_Merge_findGoals_3 (lv_at hl 4 rfl) ?_
    refine lv_aload_n hx hb d_Merge_findGoals_5 rfl (lv_at hl 1 rfl) ?_
    obtain ⟨t1, et1, hM⟩ := bS hM
    refine r_getR C hS fl_Merge_70 et1 d_Merge_findGoals_6 ?_
    obtain ⟨t2, et2, hM⟩ := bS hM
    refine r_callVi (x := t2) C hS cv_Merge_55 (c_Tree_size l base D cI cZ h t1 et2) (o_Tree_size et2) (rest := [.int l4]) rfl hl.1 rfl (Nat.le_of_ble_eq_true rfl) ⟨(Nat.le_of_ble_eq_true rfl), (Nat.le_of_ble_eq_true rfl)⟩ ⟨(Nat.le_of_ble_eq_true rfl), (Nat.le_of_ble_eq_true rfl)⟩ d_Merge_findGoals_9 (fun H locs hS => ?_)
    refine lv_icmp_ge (tgt := 75) hx hb d_Merge_findGoals_12 (by decide) (fun c12_1 => ?_) (fun c12_1 => ?_)
    · rw [if_pos c12_1] at hM
      obtain rfl := Option.some.inj hM
      exact r_vret C hS d_Merge_findGoals_75
    · rw [if_neg c12_1] at hM
      refine lv_aload_n hx hb d_Merge_findGoals_15 rfl (lv_at hl 3 rfl) ?_
      obtain ⟨t3, et3, hM⟩ := bS hM
      refine r_getR C hS fl_Merge_83 et3 d_Merge_findGoals_16 ?_
      refine lv_iload hx hb d_Merge_findGoals_19 (lv_at hl 4 rfl) ?_
      obtain ⟨t4, et4, hM⟩ := bS hM
      refine r_callVi (x := t4) C hS cv_Merge_148 (c_Pairs_sourceOf l base D cI cZ h t3 l4 et4) (o_Pairs_sourceOf et4) (rest := []) rfl hl.1 rfl (Nat.le_of_ble_eq_true rfl) ⟨(Nat.le_of_ble_eq_true rfl), (Nat.le_of_ble_eq_true rfl)⟩ ⟨(Nat.le_of_ble_eq_true rfl), (Nat.le_of_ble_eq_true rfl)⟩ d_Merge_findGoals_21 (fun H locs hS => ?_)
      refine lv_bipush (v := (-6 : Int32)) hx hb d_Merge_findGoals_24 (by decide) ?_
      have kJ34_2 : ∀ (H : Heap) (locs : List Loc) (ls : Array Slot), RS base D cI cZ s H locs h → lv_has ls 6 [(0, .ref (base + l0)), (1, .ref (base + l1)), (2, .ref (base + l2)), (3, .ref (base + l3)), (4, .int l4)] → Wg l base D cI cZ 3 72 0 0 r none p e s m args below meth c H locs 0 0 (F0 m 34 ls [.int (if t4 = (-6 : Int32) then ((1 : Int32)) else ((0 : Int32)))]) := by
        intro H locs ls hS hl
        refine lv_istore (lv' := [(5, .int (if t4 = (-6 : Int32) then ((1 : Int32)) else ((0 : Int32)))), (0, .ref (base + l0)), (1, .ref (base + l1)), (2, .ref (base + l2)), (3, .ref (base + l3)), (4, .int l4)]) hx hb d_Merge_findGoals_34 hl (by decide) rfl (fun ls hl => ?_)
        refine lv_aload_n hx hb d_Merge_findGoals_36 rfl (lv_at hl 1 rfl) ?_
        obtain ⟨t5, et5, hM⟩ := bS hM
        refine r_getR C hS fl_Merge_37 et5 d_Merge_findGoals_37 ?_
        refine lv_iload hx hb d_Merge_findGoals_40 (lv_at hl 5 rfl) ?_
        refine lv_iload hx hb d_Merge_findGoals_42 (lv_at hl 0 rfl) ?_
        obtain ⟨t6, et6, hM⟩ := bS hM
        have kJ68_4 : ∀ (H : Heap) (locs : List Loc) (ls : Array Slot), RS base D cI cZ s H locs h → lv_has ls 6 [(0, .ref (base + l0)), (1, .ref (base + l1)), (2, .ref (base + l2)), (3, .ref (base + l3)), (4, .int l4)] → Wg l base D cI cZ 3 72 0 0 r none p e s m args below meth c H locs 0 0 (F0 m 68 ls [.int t6, .int l4, .ref (base + t5)]) := by
          intro H locs ls hS hl
          obtain ⟨h11, eh11, hM⟩ := bS hM
          refine r_iast C hS eh11 d_Merge_findGoals_68 (fun H locs hS => ?_)
          refine lv_iinc (v := (l4 + (1 : Int32))) (lv' := [(4, .int (l4 + (1 : Int32))), (0, .ref (base + l0)), (1, .ref (base + l1)), (2, .ref (base + l2)), (3, .ref (base + l3))]) hx hb d_Merge_findGoals_69 hl (k := 4) rfl (by rw [oi_1]) (by decide) rfl (fun ls hl => ?_)
          refine lv_goto (tgt := 3) hx hb d_Merge_findGoals_72 (by decide) ?_
          exact ih (l4 + (1 : Int32)) h11 hM _ _ _ hS (lv_sub hl [1, 2, 3, 4, 0] rfl)
        refine lv_if_eq (tgt := 66) hx hb d_Merge_findGoals_44 (by decide) (fun c44_5 => ?_) (fun c44_5 => ?_)
        · rw [if_pos c44_5] at et6
          refine lv_bipush (v := (-6 : Int32)) hx hb d_Merge_findGoals_66 (by decide) ?_
          obtain rfl := Option.some.inj et6
          exact kJ68_4 _ _ _ hS (lv_sub hl [1, 2, 3, 4, 5] rfl)
        · rw [if_neg c44_5] at et6
          refine lv_aload_n hx hb d_Merge_findGoals_47 rfl (lv_at hl 2 rfl) ?_
          obtain ⟨t7, et7, et6⟩ := bS et6
          refine r_getR C hS fl_Merge_70 et7 d_Merge_findGoals_48 ?_
          refine lv_iload hx hb d_Merge_findGoals_51 (lv_at hl 5 rfl) ?_
          obtain ⟨t8, et8, et6⟩ := bS et6
          refine r_callVi (x := t8) C hS cv_Merge_95 (c_Tree_pathAt l base D cI cZ h t7 l4 et8) (o_Tree_pathAt et8) (rest := [.int l4, .ref (base + t5)]) rfl hl.1 rfl (Nat.le_of_ble_eq_true rfl) ⟨(Nat.le_of_ble_eq_true rfl), (Nat.le_of_ble_eq_true rfl)⟩ ⟨(Nat.le_of_ble_eq_true rfl), (Nat.le_of_ble_eq_true rfl)⟩ d_Merge_findGoals_53 (fun H locs hS => ?_)
          refine lv_aload_n hx hb d_Merge_findGoals_56 rfl (lv_at hl 3 rfl) ?_
          obtain ⟨t9, et9, et6⟩ := bS et6
          refine r_getR C hS fl_Merge_113 et9 d_Merge_findGoals_57 ?_
          obtain ⟨t10, et10, et6⟩ := bS et6
          refine r_callSi (x := t10) C hS cs_Merge_151 (c_Merge_newPath l base D cI cZ h t8 t9 et10) (rest := [.int l4, .ref (base + t5)]) rfl hl.1 rfl (Nat.le_of_ble_eq_true rfl) ⟨(Nat.le_of_ble_eq_true rfl), (Nat.le_of_ble_eq_true rfl)⟩ ⟨(Nat.le_of_ble_eq_true rfl), (Nat.le_of_ble_eq_true rfl)⟩ d_Merge_findGoals_60 (fun H locs hS => ?_)
          refine lv_goto (tgt := 68) hx hb d_Merge_findGoals_63 (by decide) ?_
          obtain rfl := Option.some.inj et6
          exact kJ68_4 _ _ _ hS (lv_sub hl [1, 2, 3, 4, 5] rfl)
      refine lv_icmp_ne (tgt := 33) hx hb d_Merge_findGoals_26 (by decide) (fun c26_3 => ?_) (fun c26_3 => ?_)
      · rw [if_neg c26_3] at kJ34_2
        refine lv_iconst (v := (0 : Int32)) hx hb d_Merge_findGoals_33 (by decide) ?_
        exact kJ34_2 _ _ _ hS (lv_sub hl [0, 1, 2, 3, 4] rfl)
      · rw [if_pos c26_3] at kJ34_2
        refine lv_iconst (v := (1 : Int32)) hx hb d_Merge_findGoals_29 (by decide) ?_
        refine lv_goto (tgt := 34) hx hb d_Merge_findGoals_30 (by decide) ?_
        exact kJ34_2 _ _ _ hS (lv_sub hl [0, 1, 2, 3, 4] rfl)
def f_Merge_findGoals (h : Hp) (l0 : Nat) (l1 : Nat) (l2 : Nat) (l3 : Nat) : Option Hp :=
  ck h 2 l0 (
    f_Merge_findGoals_3 l0 l1 l2 l3 FU (0 : Int32) h
  )
theorem o_Merge_findGoals {h : Hp} {l0 : Nat} {l1 : Nat} {l2 : Nat} {l3 : Nat} {r : Hp} (hM : f_Merge_findGoals h l0 l1 l2 l3 = some r) : isO h 2 l0 = true := by
  unfold f_Merge_findGoals at hM
  exact (ck_some hM).1
set_option maxHeartbeats 4000000 in
set_option maxRecDepth 100000 in
theorem t_Merge_findGoals {h : Hp} {l0 : Nat} {l1 : Nat} {l2 : Nat} {l3 : Nat} {r : Hp} (C : Cx base D cI cZ b_Merge_findGoals 6 "MovedFolders$Merge" "findGoals" none p s m args meth c) (hM : f_Merge_findGoals h l0 l1 l2 l3 = some r) (H : Heap) (locs : List Loc) (ls : Array Slot) (hS : RS base D cI cZ s H locs h) (hl : lv_has ls 6 [(0, .ref (base + l0)), (1, .ref (base + l1)), (2, .ref (base + l2)), (3, .ref (base + l3))]) : Wg l base D cI cZ 3 72 0 0 r none p e s m args below meth c H locs 0 0 (F0 m 0 ls []) := by
  have hx := C.1
  have hb := C.2.1
  unfold f_Merge_findGoals at hM
  replace hM := (ck_some hM).2
  refine lv_iconst (v := (0 : Int32)) hx hb d_Merge_findGoals_0 (by decide) ?_
  refine lv_istore (lv' := [(4, .int (0 : Int32)), (0, .ref (base + l0)), (1, .ref (base + l1)), (2, .ref (base + l2)), (3, .ref (base + l3))]) hx hb d_Merge_findGoals_1 hl (by decide) rfl (fun ls hl => ?_)
  exact t_Merge_findGoals_3  C  FU (0 : Int32) h hM _ _ _ hS (lv_sub hl [1, 2, 3, 4, 0] rfl)
theorem c_Merge_findGoals (l : Launch) (base : Nat) (D : va_G) (cI cZ : ClassId) (h : Hp) (l0 : Nat) (l1 : Nat) (l2 : Nat) (l3 : Nat) {r : Hp} (hM : f_Merge_findGoals h l0 l1 l2 l3 = some r) : Ct l base D cI cZ y_Merge_findGoals b_Merge_findGoals 6 none 3 72 0 0 h [.ref (base + l0), .ref (base + l1), .ref (base + l2), .ref (base + l3)] r none :=
  ct_of (by decide) (Nat.le_of_ble_eq_true rfl) (fun p e s m below meth c ls C hS hl => t_Merge_findGoals C hM _ _ _ hS hl)
theorem d_Merge_takeSame_0 : decode b_Merge_takeSame 0 = .ok (.iconst 0, 1) := by decide +kernel
theorem d_Merge_takeSame_1 : decode b_Merge_takeSame 1 = .ok (.istore 4, 2) := by decide +kernel
theorem d_Merge_takeSame_3 : decode b_Merge_takeSame 3 = .ok (.iload 4, 2) := by decide +kernel
theorem d_Merge_takeSame_5 : decode b_Merge_takeSame 5 = .ok (.aload_n 1, 1) := by decide +kernel
theorem d_Merge_takeSame_6 : decode b_Merge_takeSame 6 = .ok (.invokevirtual 55, 3) := by decide +kernel
theorem d_Merge_takeSame_9 : decode b_Merge_takeSame 9 = .ok (.if_icmp .ge 40, 3) := by decide +kernel
theorem d_Merge_takeSame_12 : decode b_Merge_takeSame 12 = .ok (.aload_n 0, 1) := by decide +kernel
theorem d_Merge_takeSame_13 : decode b_Merge_takeSame 13 = .ok (.getfield 37, 3) := by decide +kernel
theorem d_Merge_takeSame_16 : decode b_Merge_takeSame 16 = .ok (.iload 4, 2) := by decide +kernel
theorem d_Merge_takeSame_18 : decode b_Merge_takeSame 18 = .ok (.iaload, 1) := by decide +kernel
theorem d_Merge_takeSame_19 : decode b_Merge_takeSame 19 = .ok (.iload_n 2, 1) := by decide +kernel
theorem d_Merge_takeSame_20 : decode b_Merge_takeSame 20 = .ok (.if_icmp .ne 23, 3) := by decide +kernel
theorem d_Merge_takeSame_23 : decode b_Merge_takeSame 23 = .ok (.aload_n 1, 1) := by decide +kernel
theorem d_Merge_takeSame_24 : decode b_Merge_takeSame 24 = .ok (.iload 4, 2) := by decide +kernel
theorem d_Merge_takeSame_26 : decode b_Merge_takeSame 26 = .ok (.invokevirtual 98, 3) := by decide +kernel
theorem d_Merge_takeSame_29 : decode b_Merge_takeSame 29 = .ok (.iload_n 3, 1) := by decide +kernel
theorem d_Merge_takeSame_30 : decode b_Merge_takeSame 30 = .ok (.if_icmp .ne 13, 3) := by decide +kernel
theorem d_Merge_takeSame_33 : decode b_Merge_takeSame 33 = .ok (.aload_n 0, 1) := by decide +kernel
theorem d_Merge_takeSame_34 : decode b_Merge_takeSame 34 = .ok (.getfield 37, 3) := by decide +kernel
theorem d_Merge_takeSame_37 : decode b_Merge_takeSame 37 = .ok (.iload 4, 2) := by decide +kernel
theorem d_Merge_takeSame_39 : decode b_Merge_takeSame 39 = .ok (.bipush (-6), 2) := by decide +kernel
theorem d_Merge_takeSame_41 : decode b_Merge_takeSame 41 = .ok (.iastore, 1) := by decide +kernel
theorem d_Merge_takeSame_42 : decode b_Merge_takeSame 42 = .ok (.return_, 1) := by decide +kernel
theorem d_Merge_takeSame_43 : decode b_Merge_takeSame 43 = .ok (.iinc 4 1, 3) := by decide +kernel
theorem d_Merge_takeSame_46 : decode b_Merge_takeSame 46 = .ok (.goto (-43), 3) := by decide +kernel
theorem d_Merge_takeSame_49 : decode b_Merge_takeSame 49 = .ok (.return_, 1) := by decide +kernel
def f_Merge_takeSame_3 (h : Hp) (l0 : Nat) (l1 : Nat) (l2 : Int32) (l3 : Int32) : Nat → Int32 → Option Hp
  | 0, _ => none
  | n + 1, l4 =>
    (f_Tree_size h l1).bind fun t1 =>
    if t1 ≤ l4 then (
      some h
    ) else (
      (gR h 2 l0 8).bind fun t2 =>
      (gA h false t2 l4).bind fun t3 =>
      if t3 = l2 then (
        (f_Tree_contentAt h l1 l4).bind fun t4 =>
        if t4 = l3 then (
          (gR h 2 l0 8).bind fun t5 =>
          (sA h t5 l4 (-6 : Int32)).bind fun h6 =>
          some h6
        ) else (
          f_Merge_takeSame_3 h l0 l1 l2 l3 n (l4 + (1 : Int32))
        )
      ) else (
        f_Merge_takeSame_3 h l0 l1 l2 l3 n (l4 + (1 : Int32))
      )
    )
set_option maxHeartbeats 4000000 in
set_option maxRecDepth 100000 in
theorem t_Merge_takeSame_3 {h : Hp} {l0 : Nat} {l1 : Nat} {l2 : Int32} {l3 : Int32} {r : Hp} (C : Cx base D cI cZ b_Merge_takeSame 5 "MovedFolders$Merge" "takeSame" none p s m args meth c)  : ∀ (n : Nat) (l4 : Int32), f_Merge_takeSame_3 h l0 l1 l2 l3 n l4 = some r → ∀ (H : Heap) (locs : List Loc) (ls : Array Slot), RS base D cI cZ s H locs h → lv_has ls 5 [(0, .ref (base + l0)), (1, .ref (base + l1)), (2, .int l2), (3, .int l3), (4, .int l4)] → Wg l base D cI cZ 2 42 0 0 r none p e s m args below meth c H locs 0 0 (F0 m 3 ls []) := by
  have hx := C.1
  have hb := C.2.1
  intro n
  induction n with
  | zero =>
    intro l4 hM
    rw [f_Merge_takeSame_3] at hM
    cases hM
  | succ n ih =>
    intro l4 hM H locs ls hS hl
    rw [f_Merge_takeSame_3] at hM
    refine lv_iload hx hb d_Merge_takeSame_3 (lv_at hl 4 rfl) ?_
    refine lv_aload_n hx hb d_Merge_takeSame_5 rfl (lv_at hl 1 rfl) ?_
    obtain ⟨t1, et1, hM⟩ := bS hM
    refine r_callVi (x := t1) C hS cv_Merge_55 (c_Tree_size l base D cI cZ h l1 et1) (o_Tree_size et1) (rest := [.int l4]) rfl hl.1 rfl (Nat.le_of_ble_eq_true rfl) ⟨(Nat.le_of_ble_eq_true rfl), (Nat.le_of_ble_eq_true rfl)⟩ ⟨(Nat.le_of_ble_eq_true rfl), (Nat.le_of_ble_eq_true rfl)⟩ d_Merge_takeSame_6 (fun H locs hS => ?_)
    refine lv_icmp_ge (tgt := 49) hx hb d_Merge_takeSame_9 (by decide) (fun c9_1 => ?_) (fun c9_1 => ?_)
    · rw [if_pos c9_1] at hM
      obtain rfl := Option.some.inj hM
      exact r_vret C hS d_Merge_takeSame_49
    · rw [if_neg c9_1] at hM
      refine lv_aload_n hx hb d_Merge_takeSame_12 rfl (lv_at hl 0 rfl) ?_
      obtain ⟨t2, et2, hM⟩ := bS hM
      refine r_getR C hS fl_Merge_37 et2 d_Merge_takeSame_13 ?_
      refine lv_iload hx hb d_Merge_takeSame_16 (lv_at hl 4 rfl) ?_
      obtain ⟨t3, et3, hM⟩ := bS hM
      refine r_iald C hS et3 d_Merge_takeSame_18 ?_
      refine lv_iload_n hx hb d_Merge_takeSame_19 rfl (lv_at hl 2 rfl) ?_
      refine lv_icmp_ne (tgt := 43) hx hb d_Merge_takeSame_20 (by decide) (fun c20_2 => ?_) (fun c20_2 => ?_)
      · rw [if_neg c20_2] at hM
        refine lv_iinc (v := (l4 + (1 : Int32))) (lv' := [(4, .int (l4 + (1 : Int32))), (0, .ref (base + l0)), (1, .ref (base + l1)), (2, .int l2), (3, .int l3)]) hx hb d_Merge_takeSame_43 hl (k := 4) rfl (by rw [oi_1]) (by decide) rfl (fun ls hl => ?_)
        refine lv_goto (tgt := 3) hx hb d_Merge_takeSame_46 (by decide) ?_
        exact ih (l4 + (1 : Int32)) hM _ _ _ hS (lv_sub hl [1, 2, 3, 4, 0] rfl)
      · rw [if_pos c20_2] at hM
        refine lv_aload_n hx hb d_Merge_takeSame_23 rfl (lv_at hl 1 rfl) ?_
        refine lv_iload hx hb d_Merge_takeSame_24 (lv_at hl 4 rfl) ?_
        obtain ⟨t4, et4, hM⟩ := bS hM
        refine r_callVi (x := t4) C hS cv_Merge_98 (c_Tree_contentAt l base D cI cZ h l1 l4 et4) (o_Tree_contentAt et4) (rest := []) rfl hl.1 rfl (Nat.le_of_ble_eq_true rfl) ⟨(Nat.le_of_ble_eq_true rfl), (Nat.le_of_ble_eq_true rfl)⟩ ⟨(Nat.le_of_ble_eq_true rfl), (Nat.le_of_ble_eq_true rfl)⟩ d_Merge_takeSame_26 (fun H locs hS => ?_)
        refine lv_iload_n hx hb d_Merge_takeSame_29 rfl (lv_at hl 3 rfl) ?_
        refine lv_icmp_ne (tgt := 43) hx hb d_Merge_takeSame_30 (by decide) (fun c30_3 => ?_) (fun c30_3 => ?_)
        · rw [if_neg c30_3] at hM
          refine lv_iinc (v := (l4 + (1 : Int32))) (lv' := [(4, .int (l4 + (1 : Int32))), (0, .ref (base + l0)), (1, .ref (base + l1)), (2, .int l2), (3, .int l3)]) hx hb d_Merge_takeSame_43 hl (k := 4) rfl (by rw [oi_1]) (by decide) rfl (fun ls hl => ?_)
          refine lv_goto (tgt := 3) hx hb d_Merge_takeSame_46 (by decide) ?_
          exact ih (l4 + (1 : Int32)) hM _ _ _ hS (lv_sub hl [1, 2, 3, 4, 0] rfl)
        · rw [if_pos c30_3] at hM
          refine lv_aload_n hx hb d_Merge_takeSame_33 rfl (lv_at hl 0 rfl) ?_
          obtain ⟨t5, et5, hM⟩ := bS hM
          refine r_getR C hS fl_Merge_37 et5 d_Merge_takeSame_34 ?_
          refine lv_iload hx hb d_Merge_takeSame_37 (lv_at hl 4 rfl) ?_
          refine lv_bipush (v := (-6 : Int32)) hx hb d_Merge_takeSame_39 (by decide) ?_
          obtain ⟨h6, eh6, hM⟩ := bS hM
          refine r_iast C hS eh6 d_Merge_takeSame_41 (fun H locs hS => ?_)
          obtain rfl := Option.some.inj hM
          exact r_vret C hS d_Merge_takeSame_42
def f_Merge_takeSame (h : Hp) (l0 : Nat) (l1 : Nat) (l2 : Int32) (l3 : Int32) : Option Hp :=
  ck h 2 l0 (
    f_Merge_takeSame_3 h l0 l1 l2 l3 FU (0 : Int32)
  )
theorem o_Merge_takeSame {h : Hp} {l0 : Nat} {l1 : Nat} {l2 : Int32} {l3 : Int32} {r : Hp} (hM : f_Merge_takeSame h l0 l1 l2 l3 = some r) : isO h 2 l0 = true := by
  unfold f_Merge_takeSame at hM
  exact (ck_some hM).1
set_option maxHeartbeats 4000000 in
set_option maxRecDepth 100000 in
theorem t_Merge_takeSame {h : Hp} {l0 : Nat} {l1 : Nat} {l2 : Int32} {l3 : Int32} {r : Hp} (C : Cx base D cI cZ b_Merge_takeSame 5 "MovedFolders$Merge" "takeSame" none p s m args meth c) (hM : f_Merge_takeSame h l0 l1 l2 l3 = some r) (H : Heap) (locs : List Loc) (ls : Array Slot) (hS : RS base D cI cZ s H locs h) (hl : lv_has ls 5 [(0, .ref (base + l0)), (1, .ref (base + l1)), (2, .int l2), (3, .int l3)]) : Wg l base D cI cZ 2 42 0 0 r none p e s m args below meth c H locs 0 0 (F0 m 0 ls []) := by
  have hx := C.1
  have hb := C.2.1
  unfold f_Merge_takeSame at hM
  replace hM := (ck_some hM).2
  refine lv_iconst (v := (0 : Int32)) hx hb d_Merge_takeSame_0 (by decide) ?_
  refine lv_istore (lv' := [(4, .int (0 : Int32)), (0, .ref (base + l0)), (1, .ref (base + l1)), (2, .int l2), (3, .int l3)]) hx hb d_Merge_takeSame_1 hl (by decide) rfl (fun ls hl => ?_)
  exact t_Merge_takeSame_3  C  FU (0 : Int32) hM _ _ _ hS (lv_sub hl [1, 2, 3, 4, 0] rfl)
theorem c_Merge_takeSame (l : Launch) (base : Nat) (D : va_G) (cI cZ : ClassId) (h : Hp) (l0 : Nat) (l1 : Nat) (l2 : Int32) (l3 : Int32) {r : Hp} (hM : f_Merge_takeSame h l0 l1 l2 l3 = some r) : Ct l base D cI cZ y_Merge_takeSame b_Merge_takeSame 5 none 2 42 0 0 h [.ref (base + l0), .ref (base + l1), .int l2, .int l3] r none :=
  ct_of (by decide) (Nat.le_of_ble_eq_true rfl) (fun p e s m below meth c ls C hS hl => t_Merge_takeSame C hM _ _ _ hS hl)
theorem d_Merge_addNewOfOne_0 : decode b_Merge_addNewOfOne 0 = .ok (.iconst 0, 1) := by decide +kernel
theorem d_Merge_addNewOfOne_1 : decode b_Merge_addNewOfOne 1 = .ok (.istore 4, 2) := by decide +kernel
theorem d_Merge_addNewOfOne_3 : decode b_Merge_addNewOfOne 3 = .ok (.iload 4, 2) := by decide +kernel
theorem d_Merge_addNewOfOne_5 : decode b_Merge_addNewOfOne 5 = .ok (.aload_n 1, 1) := by decide +kernel
theorem d_Merge_addNewOfOne_6 : decode b_Merge_addNewOfOne 6 = .ok (.getfield 101, 3) := by decide +kernel
theorem d_Merge_addNewOfOne_9 : decode b_Merge_addNewOfOne 9 = .ok (.invokevirtual 55, 3) := by decide +kernel
theorem d_Merge_addNewOfOne_12 : decode b_Merge_addNewOfOne 12 = .ok (.if_icmp .ge 78, 3) := by decide +kernel
theorem d_Merge_addNewOfOne_15 : decode b_Merge_addNewOfOne 15 = .ok (.aload_n 2, 1) := by decide +kernel
theorem d_Merge_addNewOfOne_16 : decode b_Merge_addNewOfOne 16 = .ok (.getfield 83, 3) := by decide +kernel
theorem d_Merge_addNewOfOne_19 : decode b_Merge_addNewOfOne 19 = .ok (.iload 4, 2) := by decide +kernel
theorem d_Merge_addNewOfOne_21 : decode b_Merge_addNewOfOne 21 = .ok (.invokevirtual 148, 3) := by decide +kernel
theorem d_Merge_addNewOfOne_24 : decode b_Merge_addNewOfOne 24 = .ok (.bipush (-6), 2) := by decide +kernel
theorem d_Merge_addNewOfOne_26 : decode b_Merge_addNewOfOne 26 = .ok (.if_icmp .ne 58, 3) := by decide +kernel
theorem d_Merge_addNewOfOne_29 : decode b_Merge_addNewOfOne 29 = .ok (.aload_n 1, 1) := by decide +kernel
theorem d_Merge_addNewOfOne_30 : decode b_Merge_addNewOfOne 30 = .ok (.getfield 101, 3) := by decide +kernel
theorem d_Merge_addNewOfOne_33 : decode b_Merge_addNewOfOne 33 = .ok (.iload 4, 2) := by decide +kernel
theorem d_Merge_addNewOfOne_35 : decode b_Merge_addNewOfOne 35 = .ok (.invokevirtual 95, 3) := by decide +kernel
theorem d_Merge_addNewOfOne_38 : decode b_Merge_addNewOfOne 38 = .ok (.aload_n 3, 1) := by decide +kernel
theorem d_Merge_addNewOfOne_39 : decode b_Merge_addNewOfOne 39 = .ok (.getfield 113, 3) := by decide +kernel
theorem d_Merge_addNewOfOne_42 : decode b_Merge_addNewOfOne 42 = .ok (.invokestatic 151, 3) := by decide +kernel
theorem d_Merge_addNewOfOne_45 : decode b_Merge_addNewOfOne 45 = .ok (.istore 5, 2) := by decide +kernel
theorem d_Merge_addNewOfOne_47 : decode b_Merge_addNewOfOne 47 = .ok (.aload_n 1, 1) := by decide +kernel
theorem d_Merge_addNewOfOne_48 : decode b_Merge_addNewOfOne 48 = .ok (.getfield 101, 3) := by decide +kernel
theorem d_Merge_addNewOfOne_51 : decode b_Merge_addNewOfOne 51 = .ok (.iload 4, 2) := by decide +kernel
theorem d_Merge_addNewOfOne_53 : decode b_Merge_addNewOfOne 53 = .ok (.invokevirtual 98, 3) := by decide +kernel
theorem d_Merge_addNewOfOne_56 : decode b_Merge_addNewOfOne 56 = .ok (.istore 6, 2) := by decide +kernel
theorem d_Merge_addNewOfOne_58 : decode b_Merge_addNewOfOne 58 = .ok (.aload_n 0, 1) := by decide +kernel
theorem d_Merge_addNewOfOne_59 : decode b_Merge_addNewOfOne 59 = .ok (.aload_n 1, 1) := by decide +kernel
theorem d_Merge_addNewOfOne_60 : decode b_Merge_addNewOfOne 60 = .ok (.getfield 70, 3) := by decide +kernel
theorem d_Merge_addNewOfOne_63 : decode b_Merge_addNewOfOne 63 = .ok (.iload 5, 2) := by decide +kernel
theorem d_Merge_addNewOfOne_65 : decode b_Merge_addNewOfOne 65 = .ok (.iload 6, 2) := by decide +kernel
theorem d_Merge_addNewOfOne_67 : decode b_Merge_addNewOfOne 67 = .ok (.invokevirtual 155, 3) := by decide +kernel
theorem d_Merge_addNewOfOne_70 : decode b_Merge_addNewOfOne 70 = .ok (.aload_n 0, 1) := by decide +kernel
theorem d_Merge_addNewOfOne_71 : decode b_Merge_addNewOfOne 71 = .ok (.iload 5, 2) := by decide +kernel
theorem d_Merge_addNewOfOne_73 : decode b_Merge_addNewOfOne 73 = .ok (.iload 6, 2) := by decide +kernel
theorem d_Merge_addNewOfOne_75 : decode b_Merge_addNewOfOne 75 = .ok (.iconst 0, 1) := by decide +kernel
theorem d_Merge_addNewOfOne_76 : decode b_Merge_addNewOfOne 76 = .ok (.bipush 100, 2) := by decide +kernel
theorem d_Merge_addNewOfOne_78 : decode b_Merge_addNewOfOne 78 = .ok (.iload 4, 2) := by decide +kernel
theorem d_Merge_addNewOfOne_80 : decode b_Merge_addNewOfOne 80 = .ok (.iadd, 1) := by decide +kernel
theorem d_Merge_addNewOfOne_81 : decode b_Merge_addNewOfOne 81 = .ok (.invokevirtual 133, 3) := by decide +kernel
theorem d_Merge_addNewOfOne_84 : decode b_Merge_addNewOfOne 84 = .ok (.iinc 4 1, 3) := by decide +kernel
theorem d_Merge_addNewOfOne_87 : decode b_Merge_addNewOfOne 87 = .ok (.goto (-84), 3) := by decide +kernel
theorem d_Merge_addNewOfOne_90 : decode b_Merge_addNewOfOne 90 = .ok (.return_, 1) := by decide +kernel
def f_Merge_addNewOfOne_3 (l0 : Nat) (l1 : Nat) (l2 : Nat) (l3 : Nat) : Nat → Int32 → Hp → Option Hp
  | 0, _, _ => none
  | n + 1, l4, h =>
    (gR h 0 l1 1).bind fun t1 =>
    (f_Tree_size h t1).bind fun t2 =>
    if t2 ≤ l4 then (
      some h
    ) else (
      (gR h 6 l2 0).bind fun t3 =>
      (f_Pairs_sourceOf h t3 l4).bind fun t4 =>
      (
        if t4 = (-6 : Int32) then (
          (gR h 0 l1 1).bind fun t6 =>
          (f_Tree_pathAt h t6 l4).bind fun t7 =>
          (gR h 6 l3 1).bind fun t8 =>
          (f_Merge_newPath h t7 t8).bind fun t9 =>
          (gR h 0 l1 1).bind fun t10 =>
          (f_Tree_contentAt h t10 l4).bind fun t11 =>
          (gR h 0 l1 2).bind fun t12 =>
          (f_Merge_takeSame h l0 t12 t9 t11).bind fun h13 =>
          (f_Merge_add h13 l0 t9 t11 (0 : Int32) ((100 : Int32) + l4)).bind fun h14 =>
          some h14
        ) else (
          some h
        )
      ).bind fun h5 =>
      f_Merge_addNewOfOne_3 l0 l1 l2 l3 n (l4 + (1 : Int32)) h5
    )
set_option maxHeartbeats 4000000 in
set_option maxRecDepth 100000 in
theorem t_Merge_addNewOfOne_3 {l0 : Nat} {l1 : Nat} {l2 : Nat} {l3 : Nat} {r : Hp} (C : Cx base D cI cZ b_Merge_addNewOfOne 7 "MovedFolders$Merge" "addNewOfOne" none p s m args meth c)  : ∀ (n : Nat) (l4 : Int32) (h : Hp), f_Merge_addNewOfOne_3 l0 l1 l2 l3 n l4 h = some r → ∀ (H : Heap) (locs : List Loc) (ls : Array Slot), RS base D cI cZ s H locs h → lv_has ls 7 [(0, .ref (base + l0)), (1, .ref (base + l1)), (2, .ref (base + l2)), (3, .ref (base + l3)), (4, .int l4)] → Wg l base D cI cZ 3 72 0 0 r none p e s m args below meth c H locs 0 0 (F0 m 3 ls []) := by
  have hx := C.1
  have hb := C.2.1
  intro n
  induction n with
  | zero =>
    intro l4 h hM
    rw [f_Merge_addNewOfOne_3] at hM
    cases hM
  | succ n ih =>
    intro l4 h hM H locs ls hS hl
    rw [f_Merge_addNewOfOne_3] at hM
    refine lv_iload hx hb d_Merge_addNewOfOne_3 (lv_at hl 4 rfl) ?_
    refine lv_aload_n hx hb d_Merge_addNewOfOne_5 rfl (lv_at hl 1 rfl) ?_
    obtain ⟨t1, et1, hM⟩ := bS hM
    refine r_getR C hS fl_Merge_101 et1 d_Merge_addNewOfOne_6 ?_
    obtain ⟨t2, et2, hM⟩ := bS hM
    refine r_callVi (x := t2) C hS cv_Merge_55 (c_Tree_size l base D cI cZ h t1 et2) (o_Tree_size et2) (rest := [.int l4]) rfl hl.1 rfl (Nat.le_of_ble_eq_true rfl) ⟨(Nat.le_of_ble_eq_true rfl), (Nat.le_of_ble_eq_true rfl)⟩ ⟨(Nat.le_of_ble_eq_true rfl), (Nat.le_of_ble_eq_true rfl)⟩ d_Merge_addNewOfOne_9 (fun H locs hS => ?_)
    refine lv_icmp_ge (tgt := 90) hx hb d_Merge_addNewOfOne_12 (by decide) (fun c12_1 => ?_) (fun c12_1 => ?_)
    · rw [if_pos c12_1] at hM
      obtain rfl := Option.some.inj hM
      exact r_vret C hS d_Merge_addNewOfOne_90
    · rw [if_neg c12_1] at hM
      refine lv_aload_n hx hb d_Merge_addNewOfOne_15 rfl (lv_at hl 2 rfl) ?_
      obtain ⟨t3, et3, hM⟩ := bS hM
      refine r_getR C hS fl_Merge_83 et3 d_Merge_addNewOfOne_16 ?_
      refine lv_iload hx hb d_Merge_addNewOfOne_19 (lv_at hl 4 rfl) ?_
      obtain ⟨t4, et4, hM⟩ := bS hM
      refine r_callVi (x := t4) C hS cv_Merge_148 (c_Pairs_sourceOf l base D cI cZ h t3 l4 et4) (o_Pairs_sourceOf et4) (rest := []) rfl hl.1 rfl (Nat.le_of_ble_eq_true rfl) ⟨(Nat.le_of_ble_eq_true rfl), (Nat.le_of_ble_eq_true rfl)⟩ ⟨(Nat.le_of_ble_eq_true rfl), (Nat.le_of_ble_eq_true rfl)⟩ d_Merge_addNewOfOne_21 (fun H locs hS => ?_)
      refine lv_bipush (v := (-6 : Int32)) hx hb d_Merge_addNewOfOne_24 (by decide) ?_
      obtain ⟨h5, eh5, hM⟩ := bS hM
      have kJ84_2 : ∀ (H : Heap) (locs : List Loc) (ls : Array Slot), RS base D cI cZ s H locs h5 → lv_has ls 7 [(0, .ref (base + l0)), (1, .ref (base + l1)), (2, .ref (base + l2)), (3, .ref (base + l3)), (4, .int l4)] → Wg l base D cI cZ 3 72 0 0 r none p e s m args below meth c H locs 0 0 (F0 m 84 ls []) := by
        intro H locs ls hS hl
        refine lv_iinc (v := (l4 + (1 : Int32))) (lv' := [(4, .int (l4 + (1 : Int32))), (0, .ref (base + l0)), (1, .ref (base + l1)), (2, .ref (base + l2)), (3, .ref (base + l3))]) hx hb d_Merge_addNewOfOne_84 hl (k := 4) rfl (by rw [oi_1]) (by decide) rfl (fun ls hl => ?_)
        refine lv_goto (tgt := 3) hx hb d_Merge_addNewOfOne_87 (by decide) ?_
        exact ih (l4 + (1 : Int32)) h5 hM _ _ _ hS (lv_sub hl [1, 2, 3, 4, 0] rfl)
      refine lv_icmp_ne (tgt := 84) hx hb d_Merge_addNewOfOne_26 (by decide) (fun c26_3 => ?_) (fun c26_3 => ?_)
      · rw [if_neg c26_3] at eh5
        obtain rfl := Option.some.inj eh5
        exact kJ84_2 _ _ _ hS (lv_sub hl [0, 1, 2, 3, 4] rfl)
      · rw [if_pos c26_3] at eh5
        refine lv_aload_n hx hb d_Merge_addNewOfOne_29 rfl (lv_at hl 1 rfl) ?_
        obtain ⟨t6, et6, eh5⟩ := bS eh5
        refine r_getR C hS fl_Merge_101 et6 d_Merge_addNewOfOne_30 ?_
        refine lv_iload hx hb d_Merge_addNewOfOne_33 (lv_at hl 4 rfl) ?_
        obtain ⟨t7, et7, eh5⟩ := bS eh5
        refine r_callVi (x := t7) C hS cv_Merge_95 (c_Tree_pathAt l base D cI cZ h t6 l4 et7) (o_Tree_pathAt et7) (rest := []) rfl hl.1 rfl (Nat.le_of_ble_eq_true rfl) ⟨(Nat.le_of_ble_eq_true rfl), (Nat.le_of_ble_eq_true rfl)⟩ ⟨(Nat.le_of_ble_eq_true rfl), (Nat.le_of_ble_eq_true rfl)⟩ d_Merge_addNewOfOne_35 (fun H locs hS => ?_)
        refine lv_aload_n hx hb d_Merge_addNewOfOne_38 rfl (lv_at hl 3 rfl) ?_
        obtain ⟨t8, et8, eh5⟩ := bS eh5
        refine r_getR C hS fl_Merge_113 et8 d_Merge_addNewOfOne_39 ?_
        obtain ⟨t9, et9, eh5⟩ := bS eh5
        refine r_callSi (x := t9) C hS cs_Merge_151 (c_Merge_newPath l base D cI cZ h t7 t8 et9) (rest := []) rfl hl.1 rfl (Nat.le_of_ble_eq_true rfl) ⟨(Nat.le_of_ble_eq_true rfl), (Nat.le_of_ble_eq_true rfl)⟩ ⟨(Nat.le_of_ble_eq_true rfl), (Nat.le_of_ble_eq_true rfl)⟩ d_Merge_addNewOfOne_42 (fun H locs hS => ?_)
        refine lv_istore (lv' := [(5, .int t9), (0, .ref (base + l0)), (1, .ref (base + l1)), (2, .ref (base + l2)), (3, .ref (base + l3)), (4, .int l4)]) hx hb d_Merge_addNewOfOne_45 hl (by decide) rfl (fun ls hl => ?_)
        refine lv_aload_n hx hb d_Merge_addNewOfOne_47 rfl (lv_at hl 2 rfl) ?_
        obtain ⟨t10, et10, eh5⟩ := bS eh5
        refine r_getR C hS fl_Merge_101 et10 d_Merge_addNewOfOne_48 ?_
        refine lv_iload hx hb d_Merge_addNewOfOne_51 (lv_at hl 5 rfl) ?_
        obtain ⟨t11, et11, eh5⟩ := bS eh5
        refine r_callVi (x := t11) C hS cv_Merge_98 (c_Tree_contentAt l base D cI cZ h t10 l4 et11) (o_Tree_contentAt et11) (rest := []) rfl hl.1 rfl (Nat.le_of_ble_eq_true rfl) ⟨(Nat.le_of_ble_eq_true rfl), (Nat.le_of_ble_eq_true rfl)⟩ ⟨(Nat.le_of_ble_eq_true rfl), (Nat.le_of_ble_eq_true rfl)⟩ d_Merge_addNewOfOne_53 (fun H locs hS => ?_)
        refine lv_istore (lv' := [(6, .int t11), (5, .int t9), (0, .ref (base + l0)), (1, .ref (base + l1)), (2, .ref (base + l2)), (3, .ref (base + l3)), (4, .int l4)]) hx hb d_Merge_addNewOfOne_56 hl (by decide) rfl (fun ls hl => ?_)
        refine lv_aload_n hx hb d_Merge_addNewOfOne_58 rfl (lv_at hl 2 rfl) ?_
        refine lv_aload_n hx hb d_Merge_addNewOfOne_59 rfl (lv_at hl 3 rfl) ?_
        obtain ⟨t12, et12, eh5⟩ := bS eh5
        refine r_getR C hS fl_Merge_70 et12 d_Merge_addNewOfOne_60 ?_
        refine lv_iload hx hb d_Merge_addNewOfOne_63 (lv_at hl 1 rfl) ?_
        refine lv_iload hx hb d_Merge_addNewOfOne_65 (lv_at hl 0 rfl) ?_
        obtain ⟨h13, eh13, eh5⟩ := bS eh5
        refine r_callVv C hS cv_Merge_155 (c_Merge_takeSame l base D cI cZ h l0 t12 t9 t11 eh13) (o_Merge_takeSame eh13) (rest := []) rfl hl.1 rfl (Nat.le_of_ble_eq_true rfl) ⟨(Nat.le_of_ble_eq_true rfl), (Nat.le_of_ble_eq_true rfl)⟩ ⟨(Nat.le_of_ble_eq_true rfl), (Nat.le_of_ble_eq_true rfl)⟩ d_Merge_addNewOfOne_67 (fun H locs hS => ?_)
        refine lv_aload_n hx hb d_Merge_addNewOfOne_70 rfl (lv_at hl 2 rfl) ?_
        refine lv_iload hx hb d_Merge_addNewOfOne_71 (lv_at hl 1 rfl) ?_
        refine lv_iload hx hb d_Merge_addNewOfOne_73 (lv_at hl 0 rfl) ?_
        refine lv_iconst (v := (0 : Int32)) hx hb d_Merge_addNewOfOne_75 (by decide) ?_
        refine lv_bipush (v := (100 : Int32)) hx hb d_Merge_addNewOfOne_76 (by decide) ?_
        refine lv_iload hx hb d_Merge_addNewOfOne_78 (lv_at hl 6 rfl) ?_
        refine lv_iadd hx hb d_Merge_addNewOfOne_80 ?_
        obtain ⟨h14, eh14, eh5⟩ := bS eh5
        refine r_callVv C hS cv_Merge_133 (c_Merge_add l base D cI cZ h13 l0 t9 t11 (0 : Int32) ((100 : Int32) + l4) eh14) (o_Merge_add eh14) (rest := []) rfl hl.1 rfl (Nat.le_of_ble_eq_true rfl) ⟨(Nat.le_of_ble_eq_true rfl), (Nat.le_of_ble_eq_true rfl)⟩ ⟨(Nat.le_of_ble_eq_true rfl), (Nat.le_of_ble_eq_true rfl)⟩ d_Merge_addNewOfOne_81 (fun H locs hS => ?_)
        obtain rfl := Option.some.inj eh5
        exact kJ84_2 _ _ _ hS (lv_sub hl [2, 3, 4, 5, 6] rfl)
def f_Merge_addNewOfOne (h : Hp) (l0 : Nat) (l1 : Nat) (l2 : Nat) (l3 : Nat) : Option Hp :=
  ck h 2 l0 (
    f_Merge_addNewOfOne_3 l0 l1 l2 l3 FU (0 : Int32) h
  )
theorem o_Merge_addNewOfOne {h : Hp} {l0 : Nat} {l1 : Nat} {l2 : Nat} {l3 : Nat} {r : Hp} (hM : f_Merge_addNewOfOne h l0 l1 l2 l3 = some r) : isO h 2 l0 = true := by
  unfold f_Merge_addNewOfOne at hM
  exact (ck_some hM).1
set_option maxHeartbeats 4000000 in
set_option maxRecDepth 100000 in
theorem t_Merge_addNewOfOne {h : Hp} {l0 : Nat} {l1 : Nat} {l2 : Nat} {l3 : Nat} {r : Hp} (C : Cx base D cI cZ b_Merge_addNewOfOne 7 "MovedFolders$Merge" "addNewOfOne" none p s m args meth c) (hM : f_Merge_addNewOfOne h l0 l1 l2 l3 = some r) (H : Heap) (locs : List Loc) (ls : Array Slot) (hS : RS base D cI cZ s H locs h) (hl : lv_has ls 7 [(0, .ref (base + l0)), (1, .ref (base + l1)), (2, .ref (base + l2)), (3, .ref (base + l3))]) : Wg l base D cI cZ 3 72 0 0 r none p e s m args below meth c H locs 0 0 (F0 m 0 ls []) := by
  have hx := C.1
  have hb := C.2.1
  unfold f_Merge_addNewOfOne at hM
  replace hM := (ck_some hM).2
  refine lv_iconst (v := (0 : Int32)) hx hb d_Merge_addNewOfOne_0 (by decide) ?_
  refine lv_istore (lv' := [(4, .int (0 : Int32)), (0, .ref (base + l0)), (1, .ref (base + l1)), (2, .ref (base + l2)), (3, .ref (base + l3))]) hx hb d_Merge_addNewOfOne_1 hl (by decide) rfl (fun ls hl => ?_)
  exact t_Merge_addNewOfOne_3  C  FU (0 : Int32) h hM _ _ _ hS (lv_sub hl [1, 2, 3, 4, 0] rfl)
theorem c_Merge_addNewOfOne (l : Launch) (base : Nat) (D : va_G) (cI cZ : ClassId) (h : Hp) (l0 : Nat) (l1 : Nat) (l2 : Nat) (l3 : Nat) {r : Hp} (hM : f_Merge_addNewOfOne h l0 l1 l2 l3 = some r) : Ct l base D cI cZ y_Merge_addNewOfOne b_Merge_addNewOfOne 7 none 3 72 0 0 h [.ref (base + l0), .ref (base + l1), .ref (base + l2), .ref (base + l3)] r none :=
  ct_of (by decide) (Nat.le_of_ble_eq_true rfl) (fun p e s m below meth c ls C hS hl => t_Merge_addNewOfOne C hM _ _ _ hS hl)
theorem d_Merge_addNewOfTwo_0 : decode b_Merge_addNewOfTwo 0 = .ok (.iconst 0, 1) := by decide +kernel
theorem d_Merge_addNewOfTwo_1 : decode b_Merge_addNewOfTwo 1 = .ok (.istore_n 2, 1) := by decide +kernel
theorem d_Merge_addNewOfTwo_2 : decode b_Merge_addNewOfTwo 2 = .ok (.iload_n 2, 1) := by decide +kernel
theorem d_Merge_addNewOfTwo_3 : decode b_Merge_addNewOfTwo 3 = .ok (.aload_n 1, 1) := by decide +kernel
theorem d_Merge_addNewOfTwo_4 : decode b_Merge_addNewOfTwo 4 = .ok (.invokevirtual 55, 3) := by decide +kernel
theorem d_Merge_addNewOfTwo_7 : decode b_Merge_addNewOfTwo 7 = .ok (.if_icmp .ge 41, 3) := by decide +kernel
theorem d_Merge_addNewOfTwo_10 : decode b_Merge_addNewOfTwo 10 = .ok (.aload_n 0, 1) := by decide +kernel
theorem d_Merge_addNewOfTwo_11 : decode b_Merge_addNewOfTwo 11 = .ok (.getfield 37, 3) := by decide +kernel
theorem d_Merge_addNewOfTwo_14 : decode b_Merge_addNewOfTwo 14 = .ok (.iload_n 2, 1) := by decide +kernel
theorem d_Merge_addNewOfTwo_15 : decode b_Merge_addNewOfTwo 15 = .ok (.iaload, 1) := by decide +kernel
theorem d_Merge_addNewOfTwo_16 : decode b_Merge_addNewOfTwo 16 = .ok (.bipush (-6), 2) := by decide +kernel
theorem d_Merge_addNewOfTwo_18 : decode b_Merge_addNewOfTwo 18 = .ok (.if_icmp .eq 24, 3) := by decide +kernel
theorem d_Merge_addNewOfTwo_21 : decode b_Merge_addNewOfTwo 21 = .ok (.aload_n 0, 1) := by decide +kernel
theorem d_Merge_addNewOfTwo_22 : decode b_Merge_addNewOfTwo 22 = .ok (.aload_n 0, 1) := by decide +kernel
theorem d_Merge_addNewOfTwo_23 : decode b_Merge_addNewOfTwo 23 = .ok (.getfield 37, 3) := by decide +kernel
theorem d_Merge_addNewOfTwo_26 : decode b_Merge_addNewOfTwo 26 = .ok (.iload_n 2, 1) := by decide +kernel
theorem d_Merge_addNewOfTwo_27 : decode b_Merge_addNewOfTwo 27 = .ok (.iaload, 1) := by decide +kernel
theorem d_Merge_addNewOfTwo_28 : decode b_Merge_addNewOfTwo 28 = .ok (.aload_n 1, 1) := by decide +kernel
theorem d_Merge_addNewOfTwo_29 : decode b_Merge_addNewOfTwo 29 = .ok (.iload_n 2, 1) := by decide +kernel
theorem d_Merge_addNewOfTwo_30 : decode b_Merge_addNewOfTwo 30 = .ok (.invokevirtual 98, 3) := by decide +kernel
theorem d_Merge_addNewOfTwo_33 : decode b_Merge_addNewOfTwo 33 = .ok (.iconst 0, 1) := by decide +kernel
theorem d_Merge_addNewOfTwo_34 : decode b_Merge_addNewOfTwo 34 = .ok (.sipush 200, 3) := by decide +kernel
theorem d_Merge_addNewOfTwo_37 : decode b_Merge_addNewOfTwo 37 = .ok (.iload_n 2, 1) := by decide +kernel
theorem d_Merge_addNewOfTwo_38 : decode b_Merge_addNewOfTwo 38 = .ok (.iadd, 1) := by decide +kernel
theorem d_Merge_addNewOfTwo_39 : decode b_Merge_addNewOfTwo 39 = .ok (.invokevirtual 133, 3) := by decide +kernel
theorem d_Merge_addNewOfTwo_42 : decode b_Merge_addNewOfTwo 42 = .ok (.iinc 2 1, 3) := by decide +kernel
theorem d_Merge_addNewOfTwo_45 : decode b_Merge_addNewOfTwo 45 = .ok (.goto (-43), 3) := by decide +kernel
theorem d_Merge_addNewOfTwo_48 : decode b_Merge_addNewOfTwo 48 = .ok (.return_, 1) := by decide +kernel
def f_Merge_addNewOfTwo_2 (l0 : Nat) (l1 : Nat) : Nat → Int32 → Hp → Option Hp
  | 0, _, _ => none
  | n + 1, l2, h =>
    (f_Tree_size h l1).bind fun t1 =>
    if t1 ≤ l2 then (
      some h
    ) else (
      (gR h 2 l0 8).bind fun t2 =>
      (gA h false t2 l2).bind fun t3 =>
      (
        if t3 = (-6 : Int32) then (
          some h
        ) else (
          (gR h 2 l0 8).bind fun t5 =>
          (gA h false t5 l2).bind fun t6 =>
          (f_Tree_contentAt h l1 l2).bind fun t7 =>
          (f_Merge_add h l0 t6 t7 (0 : Int32) ((200 : Int32) + l2)).bind fun h8 =>
          some h8
        )
      ).bind fun h4 =>
      f_Merge_addNewOfTwo_2 l0 l1 n (l2 + (1 : Int32)) h4
    )
set_option maxHeartbeats 4000000 in
set_option maxRecDepth 100000 in
theorem t_Merge_addNewOfTwo_2 {l0 : Nat} {l1 : Nat} {r : Hp} (C : Cx base D cI cZ b_Merge_addNewOfTwo 3 "MovedFolders$Merge" "addNewOfTwo" none p s m args meth c)  : ∀ (n : Nat) (l2 : Int32) (h : Hp), f_Merge_addNewOfTwo_2 l0 l1 n l2 h = some r → ∀ (H : Heap) (locs : List Loc) (ls : Array Slot), RS base D cI cZ s H locs h → lv_has ls 3 [(0, .ref (base + l0)), (1, .ref (base + l1)), (2, .int l2)] → Wg l base D cI cZ 2 51 0 0 r none p e s m args below meth c H locs 0 0 (F0 m 2 ls []) := by
  have hx := C.1
  have hb := C.2.1
  intro n
  induction n with
  | zero =>
    intro l2 h hM
    rw [f_Merge_addNewOfTwo_2] at hM
    cases hM
  | succ n ih =>
    intro l2 h hM H locs ls hS hl
    rw [f_Merge_addNewOfTwo_2] at hM
    refine lv_iload_n hx hb d_Merge_addNewOfTwo_2 rfl (lv_at hl 2 rfl) ?_
    refine lv_aload_n hx hb d_Merge_addNewOfTwo_3 rfl (lv_at hl 1 rfl) ?_
    obtain ⟨t1, et1, hM⟩ := bS hM
    refine r_callVi (x := t1) C hS cv_Merge_55 (c_Tree_size l base D cI cZ h l1 et1) (o_Tree_size et1) (rest := [.int l2]) rfl hl.1 rfl (Nat.le_of_ble_eq_true rfl) ⟨(Nat.le_of_ble_eq_true rfl), (Nat.le_of_ble_eq_true rfl)⟩ ⟨(Nat.le_of_ble_eq_true rfl), (Nat.le_of_ble_eq_true rfl)⟩ d_Merge_addNewOfTwo_4 (fun H locs hS => ?_)
    refine lv_icmp_ge (tgt := 48) hx hb d_Merge_addNewOfTwo_7 (by decide) (fun c7_1 => ?_) (fun c7_1 => ?_)
    · rw [if_pos c7_1] at hM
      obtain rfl := Option.some.inj hM
      exact r_vret C hS d_Merge_addNewOfTwo_48
    · rw [if_neg c7_1] at hM
      refine lv_aload_n hx hb d_Merge_addNewOfTwo_10 rfl (lv_at hl 0 rfl) ?_
      obtain ⟨t2, et2, hM⟩ := bS hM
      refine r_getR C hS fl_Merge_37 et2 d_Merge_addNewOfTwo_11 ?_
      refine lv_iload_n hx hb d_Merge_addNewOfTwo_14 rfl (lv_at hl 2 rfl) ?_
      obtain ⟨t3, et3, hM⟩ := bS hM
      refine r_iald C hS et3 d_Merge_addNewOfTwo_15 ?_
      refine lv_bipush (v := (-6 : Int32)) hx hb d_Merge_addNewOfTwo_16 (by decide) ?_
      obtain ⟨h4, eh4, hM⟩ := bS hM
      have kJ42_2 : ∀ (H : Heap) (locs : List Loc) (ls : Array Slot), RS base D cI cZ s H locs h4 → lv_has ls 3 [(0, .ref (base + l0)), (1, .ref (base + l1)), (2, .int l2)] → Wg l base D cI cZ 2 51 0 0 r none p e s m args below meth c H locs 0 0 (F0 m 42 ls []) := by
        intro H locs ls hS hl
        refine lv_iinc (v := (l2 + (1 : Int32))) (lv' := [(2, .int (l2 + (1 : Int32))), (0, .ref (base + l0)), (1, .ref (base + l1))]) hx hb d_Merge_addNewOfTwo_42 hl (k := 2) rfl (by rw [oi_1]) (by decide) rfl (fun ls hl => ?_)
        refine lv_goto (tgt := 2) hx hb d_Merge_addNewOfTwo_45 (by decide) ?_
        exact ih (l2 + (1 : Int32)) h4 hM _ _ _ hS (lv_sub hl [1, 2, 0] rfl)
      refine lv_icmp_eq (tgt := 42) hx hb d_Merge_addNewOfTwo_18 (by decide) (fun c18_3 => ?_) (fun c18_3 => ?_)
      · rw [if_pos c18_3] at eh4
        obtain rfl := Option.some.inj eh4
        exact kJ42_2 _ _ _ hS (lv_sub hl [0, 1, 2] rfl)
      · rw [if_neg c18_3] at eh4
        refine lv_aload_n hx hb d_Merge_addNewOfTwo_21 rfl (lv_at hl 0 rfl) ?_
        refine lv_aload_n hx hb d_Merge_addNewOfTwo_22 rfl (lv_at hl 0 rfl) ?_
        obtain ⟨t5, et5, eh4⟩ := bS eh4
        refine r_getR C hS fl_Merge_37 et5 d_Merge_addNewOfTwo_23 ?_
        refine lv_iload_n hx hb d_Merge_addNewOfTwo_26 rfl (lv_at hl 2 rfl) ?_
        obtain ⟨t6, et6, eh4⟩ := bS eh4
        refine r_iald C hS et6 d_Merge_addNewOfTwo_27 ?_
        refine lv_aload_n hx hb d_Merge_addNewOfTwo_28 rfl (lv_at hl 1 rfl) ?_
        refine lv_iload_n hx hb d_Merge_addNewOfTwo_29 rfl (lv_at hl 2 rfl) ?_
        obtain ⟨t7, et7, eh4⟩ := bS eh4
        refine r_callVi (x := t7) C hS cv_Merge_98 (c_Tree_contentAt l base D cI cZ h l1 l2 et7) (o_Tree_contentAt et7) (rest := [.int t6, .ref (base + l0)]) rfl hl.1 rfl (Nat.le_of_ble_eq_true rfl) ⟨(Nat.le_of_ble_eq_true rfl), (Nat.le_of_ble_eq_true rfl)⟩ ⟨(Nat.le_of_ble_eq_true rfl), (Nat.le_of_ble_eq_true rfl)⟩ d_Merge_addNewOfTwo_30 (fun H locs hS => ?_)
        refine lv_iconst (v := (0 : Int32)) hx hb d_Merge_addNewOfTwo_33 (by decide) ?_
        refine lv_sipush (v := (200 : Int32)) hx hb d_Merge_addNewOfTwo_34 (by decide) ?_
        refine lv_iload_n hx hb d_Merge_addNewOfTwo_37 rfl (lv_at hl 2 rfl) ?_
        refine lv_iadd hx hb d_Merge_addNewOfTwo_38 ?_
        obtain ⟨h8, eh8, eh4⟩ := bS eh4
        refine r_callVv C hS cv_Merge_133 (c_Merge_add l base D cI cZ h l0 t6 t7 (0 : Int32) ((200 : Int32) + l2) eh8) (o_Merge_add eh8) (rest := []) rfl hl.1 rfl (Nat.le_of_ble_eq_true rfl) ⟨(Nat.le_of_ble_eq_true rfl), (Nat.le_of_ble_eq_true rfl)⟩ ⟨(Nat.le_of_ble_eq_true rfl), (Nat.le_of_ble_eq_true rfl)⟩ d_Merge_addNewOfTwo_39 (fun H locs hS => ?_)
        obtain rfl := Option.some.inj eh4
        exact kJ42_2 _ _ _ hS (lv_sub hl [0, 1, 2] rfl)
def f_Merge_addNewOfTwo (h : Hp) (l0 : Nat) (l1 : Nat) : Option Hp :=
  ck h 2 l0 (
    f_Merge_addNewOfTwo_2 l0 l1 FU (0 : Int32) h
  )
theorem o_Merge_addNewOfTwo {h : Hp} {l0 : Nat} {l1 : Nat} {r : Hp} (hM : f_Merge_addNewOfTwo h l0 l1 = some r) : isO h 2 l0 = true := by
  unfold f_Merge_addNewOfTwo at hM
  exact (ck_some hM).1
set_option maxHeartbeats 4000000 in
set_option maxRecDepth 100000 in
theorem t_Merge_addNewOfTwo {h : Hp} {l0 : Nat} {l1 : Nat} {r : Hp} (C : Cx base D cI cZ b_Merge_addNewOfTwo 3 "MovedFolders$Merge" "addNewOfTwo" none p s m args meth c) (hM : f_Merge_addNewOfTwo h l0 l1 = some r) (H : Heap) (locs : List Loc) (ls : Array Slot) (hS : RS base D cI cZ s H locs h) (hl : lv_has ls 3 [(0, .ref (base + l0)), (1, .ref (base + l1))]) : Wg l base D cI cZ 2 51 0 0 r none p e s m args below meth c H locs 0 0 (F0 m 0 ls []) := by
  have hx := C.1
  have hb := C.2.1
  unfold f_Merge_addNewOfTwo at hM
  replace hM := (ck_some hM).2
  refine lv_iconst (v := (0 : Int32)) hx hb d_Merge_addNewOfTwo_0 (by decide) ?_
  refine lv_istore_n (lv' := [(2, .int (0 : Int32)), (0, .ref (base + l0)), (1, .ref (base + l1))]) hx hb d_Merge_addNewOfTwo_1 rfl hl (by decide) rfl (fun ls hl => ?_)
  exact t_Merge_addNewOfTwo_2  C  FU (0 : Int32) h hM _ _ _ hS (lv_sub hl [1, 2, 0] rfl)
theorem c_Merge_addNewOfTwo (l : Launch) (base : Nat) (D : va_G) (cI cZ : ClassId) (h : Hp) (l0 : Nat) (l1 : Nat) {r : Hp} (hM : f_Merge_addNewOfTwo h l0 l1 = some r) : Ct l base D cI cZ y_Merge_addNewOfTwo b_Merge_addNewOfTwo 3 none 2 51 0 0 h [.ref (base + l0), .ref (base + l1)] r none :=
  ct_of (by decide) (Nat.le_of_ble_eq_true rfl) (fun p e s m below meth c ls C hS hl => t_Merge_addNewOfTwo C hM _ _ _ hS hl)
theorem d_Merge_markMeetings_0 : decode b_Merge_markMeetings 0 = .ok (.iconst 1, 1) := by decide +kernel
theorem d_Merge_markMeetings_1 : decode b_Merge_markMeetings 1 = .ok (.istore_n 1, 1) := by decide +kernel
theorem d_Merge_markMeetings_2 : decode b_Merge_markMeetings 2 = .ok (.iload_n 1, 1) := by decide +kernel
theorem d_Merge_markMeetings_3 : decode b_Merge_markMeetings 3 = .ok (.aload_n 0, 1) := by decide +kernel
theorem d_Merge_markMeetings_4 : decode b_Merge_markMeetings 4 = .ok (.getfield 24, 3) := by decide +kernel
theorem d_Merge_markMeetings_7 : decode b_Merge_markMeetings 7 = .ok (.if_icmp .ge 50, 3) := by decide +kernel
theorem d_Merge_markMeetings_10 : decode b_Merge_markMeetings 10 = .ok (.aload_n 0, 1) := by decide +kernel
theorem d_Merge_markMeetings_11 : decode b_Merge_markMeetings 11 = .ok (.getfield 9, 3) := by decide +kernel
theorem d_Merge_markMeetings_14 : decode b_Merge_markMeetings 14 = .ok (.iload_n 1, 1) := by decide +kernel
theorem d_Merge_markMeetings_15 : decode b_Merge_markMeetings 15 = .ok (.iconst 1, 1) := by decide +kernel
theorem d_Merge_markMeetings_16 : decode b_Merge_markMeetings 16 = .ok (.isub, 1) := by decide +kernel
theorem d_Merge_markMeetings_17 : decode b_Merge_markMeetings 17 = .ok (.iaload, 1) := by decide +kernel
theorem d_Merge_markMeetings_18 : decode b_Merge_markMeetings 18 = .ok (.aload_n 0, 1) := by decide +kernel
theorem d_Merge_markMeetings_19 : decode b_Merge_markMeetings 19 = .ok (.getfield 9, 3) := by decide +kernel
theorem d_Merge_markMeetings_22 : decode b_Merge_markMeetings 22 = .ok (.iload_n 1, 1) := by decide +kernel
theorem d_Merge_markMeetings_23 : decode b_Merge_markMeetings 23 = .ok (.iaload, 1) := by decide +kernel
theorem d_Merge_markMeetings_24 : decode b_Merge_markMeetings 24 = .ok (.if_icmp .ne 27, 3) := by decide +kernel
theorem d_Merge_markMeetings_27 : decode b_Merge_markMeetings 27 = .ok (.aload_n 0, 1) := by decide +kernel
theorem d_Merge_markMeetings_28 : decode b_Merge_markMeetings 28 = .ok (.getfield 18, 3) := by decide +kernel
theorem d_Merge_markMeetings_31 : decode b_Merge_markMeetings 31 = .ok (.iload_n 1, 1) := by decide +kernel
theorem d_Merge_markMeetings_32 : decode b_Merge_markMeetings 32 = .ok (.iconst 1, 1) := by decide +kernel
theorem d_Merge_markMeetings_33 : decode b_Merge_markMeetings 33 = .ok (.isub, 1) := by decide +kernel
theorem d_Merge_markMeetings_34 : decode b_Merge_markMeetings 34 = .ok (.dup2, 1) := by decide +kernel
theorem d_Merge_markMeetings_35 : decode b_Merge_markMeetings 35 = .ok (.iaload, 1) := by decide +kernel
theorem d_Merge_markMeetings_36 : decode b_Merge_markMeetings 36 = .ok (.bipush 8, 2) := by decide +kernel
theorem d_Merge_markMeetings_38 : decode b_Merge_markMeetings 38 = .ok (.ior, 1) := by decide +kernel
theorem d_Merge_markMeetings_39 : decode b_Merge_markMeetings 39 = .ok (.iastore, 1) := by decide +kernel
theorem d_Merge_markMeetings_40 : decode b_Merge_markMeetings 40 = .ok (.aload_n 0, 1) := by decide +kernel
theorem d_Merge_markMeetings_41 : decode b_Merge_markMeetings 41 = .ok (.getfield 18, 3) := by decide +kernel
theorem d_Merge_markMeetings_44 : decode b_Merge_markMeetings 44 = .ok (.iload_n 1, 1) := by decide +kernel
theorem d_Merge_markMeetings_45 : decode b_Merge_markMeetings 45 = .ok (.dup2, 1) := by decide +kernel
theorem d_Merge_markMeetings_46 : decode b_Merge_markMeetings 46 = .ok (.iaload, 1) := by decide +kernel
theorem d_Merge_markMeetings_47 : decode b_Merge_markMeetings 47 = .ok (.bipush 8, 2) := by decide +kernel
theorem d_Merge_markMeetings_49 : decode b_Merge_markMeetings 49 = .ok (.ior, 1) := by decide +kernel
theorem d_Merge_markMeetings_50 : decode b_Merge_markMeetings 50 = .ok (.iastore, 1) := by decide +kernel
theorem d_Merge_markMeetings_51 : decode b_Merge_markMeetings 51 = .ok (.iinc 1 1, 3) := by decide +kernel
theorem d_Merge_markMeetings_54 : decode b_Merge_markMeetings 54 = .ok (.goto (-52), 3) := by decide +kernel
theorem d_Merge_markMeetings_57 : decode b_Merge_markMeetings 57 = .ok (.return_, 1) := by decide +kernel
def f_Merge_markMeetings_2 (l0 : Nat) : Nat → Int32 → Hp → Option Hp
  | 0, _, _ => none
  | n + 1, l1, h =>
    (gI h 2 l0 4).bind fun t1 =>
    if t1 ≤ l1 then (
      some h
    ) else (
      (gR h 2 l0 0).bind fun t2 =>
      (gA h false t2 (l1 - (1 : Int32))).bind fun t3 =>
      (gR h 2 l0 0).bind fun t4 =>
      (gA h false t4 l1).bind fun t5 =>
      (
        if t3 = t5 then (
          (gR h 2 l0 2).bind fun t7 =>
          (gA h false t7 (l1 - (1 : Int32))).bind fun t8 =>
          (sA h t7 (l1 - (1 : Int32)) (t8 ||| (8 : Int32))).bind fun h9 =>
          (gR h9 2 l0 2).bind fun t10 =>
          (gA h9 false t10 l1).bind fun t11 =>
          (sA h9 t10 l1 (t11 ||| (8 : Int32))).bind fun h12 =>
          some h12
        ) else (
          some h
        )
      ).bind fun h6 =>
      f_Merge_markMeetings_2 l0 n (l1 + (1 : Int32)) h6
    )
set_option maxHeartbeats 4000000 in
set_option maxRecDepth 100000 in
theorem t_Merge_markMeetings_2 {l0 : Nat} {r : Hp} (C : Cx base D cI cZ b_Merge_markMeetings 2 "MovedFolders$Merge" "markMeetings" none p s m args meth c)  : ∀ (n : Nat) (l1 : Int32) (h : Hp), f_Merge_markMeetings_2 l0 n l1 h = some r → ∀ (H : Heap) (locs : List Loc) (ls : Array Slot), RS base D cI cZ s H locs h → lv_has ls 2 [(0, .ref (base + l0)), (1, .int l1)] → Wg l base D cI cZ 0 0 0 0 r none p e s m args below meth c H locs 0 0 (F0 m 2 ls []) := by
  have hx := C.1
  have hb := C.2.1
  intro n
  induction n with
  | zero =>
    intro l1 h hM
    rw [f_Merge_markMeetings_2] at hM
    cases hM
  | succ n ih =>
    intro l1 h hM H locs ls hS hl
    rw [f_Merge_markMeetings_2] at hM
    refine lv_iload_n hx hb d_Merge_markMeetings_2 rfl (lv_at hl 1 rfl) ?_
    refine lv_aload_n hx hb d_Merge_markMeetings_3 rfl (lv_at hl 0 rfl) ?_
    obtain ⟨t1, et1, hM⟩ := bS hM
    refine r_getI C hS fl_Merge_24 et1 d_Merge_markMeetings_4 ?_
    refine lv_icmp_ge (tgt := 57) hx hb d_Merge_markMeetings_7 (by decide) (fun c7_1 => ?_) (fun c7_1 => ?_)
    · rw [if_pos c7_1] at hM
      obtain rfl := Option.some.inj hM
      exact r_vret C hS d_Merge_markMeetings_57
    · rw [if_neg c7_1] at hM
      refine lv_aload_n hx hb d_Merge_markMeetings_10 rfl (lv_at hl 0 rfl) ?_
      obtain ⟨t2, et2, hM⟩ := bS hM
      refine r_getR C hS fl_Merge_9 et2 d_Merge_markMeetings_11 ?_
      refine lv_iload_n hx hb d_Merge_markMeetings_14 rfl (lv_at hl 1 rfl) ?_
      refine lv_iconst (v := (1 : Int32)) hx hb d_Merge_markMeetings_15 (by decide) ?_
      refine lv_isub hx hb d_Merge_markMeetings_16 ?_
      obtain ⟨t3, et3, hM⟩ := bS hM
      refine r_iald C hS et3 d_Merge_markMeetings_17 ?_
      refine lv_aload_n hx hb d_Merge_markMeetings_18 rfl (lv_at hl 0 rfl) ?_
      obtain ⟨t4, et4, hM⟩ := bS hM
      refine r_getR C hS fl_Merge_9 et4 d_Merge_markMeetings_19 ?_
      refine lv_iload_n hx hb d_Merge_markMeetings_22 rfl (lv_at hl 1 rfl) ?_
      obtain ⟨t5, et5, hM⟩ := bS hM
      refine r_iald C hS et5 d_Merge_markMeetings_23 ?_
      obtain ⟨h6, eh6, hM⟩ := bS hM
      have kJ51_2 : ∀ (H : Heap) (locs : List Loc) (ls : Array Slot), RS base D cI cZ s H locs h6 → lv_has ls 2 [(0, .ref (base + l0)), (1, .int l1)] → Wg l base D cI cZ 0 0 0 0 r none p e s m args below meth c H locs 0 0 (F0 m 51 ls []) := by
        intro H locs ls hS hl
        refine lv_iinc (v := (l1 + (1 : Int32))) (lv' := [(1, .int (l1 + (1 : Int32))), (0, .ref (base + l0))]) hx hb d_Merge_markMeetings_51 hl (k := 1) rfl (by rw [oi_1]) (by decide) rfl (fun ls hl => ?_)
        refine lv_goto (tgt := 2) hx hb d_Merge_markMeetings_54 (by decide) ?_
        exact ih (l1 + (1 : Int32)) h6 hM _ _ _ hS (lv_sub hl [1, 0] rfl)
      refine lv_icmp_ne (tgt := 51) hx hb d_Merge_markMeetings_24 (by decide) (fun c24_3 => ?_) (fun c24_3 => ?_)
      · rw [if_neg c24_3] at eh6
        obtain rfl := Option.some.inj eh6
        exact kJ51_2 _ _ _ hS (lv_sub hl [0, 1] rfl)
      · rw [if_pos c24_3] at eh6
        refine lv_aload_n hx hb d_Merge_markMeetings_27 rfl (lv_at hl 0 rfl) ?_
        obtain ⟨t7, et7, eh6⟩ := bS eh6
        refine r_getR C hS fl_Merge_18 et7 d_Merge_markMeetings_28 ?_
        refine lv_iload_n hx hb d_Merge_markMeetings_31 rfl (lv_at hl 1 rfl) ?_
        refine lv_iconst (v := (1 : Int32)) hx hb d_Merge_markMeetings_32 (by decide) ?_
        refine lv_isub hx hb d_Merge_markMeetings_33 ?_
        refine lv_dup2_11 hx hb d_Merge_markMeetings_34 rfl rfl ?_
        obtain ⟨t8, et8, eh6⟩ := bS eh6
        refine r_iald C hS et8 d_Merge_markMeetings_35 ?_
        refine lv_bipush (v := (8 : Int32)) hx hb d_Merge_markMeetings_36 (by decide) ?_
        refine lv_ior hx hb d_Merge_markMeetings_38 ?_
        obtain ⟨h9, eh9, eh6⟩ := bS eh6
        refine r_iast C hS eh9 d_Merge_markMeetings_39 (fun H locs hS => ?_)
        refine lv_aload_n hx hb d_Merge_markMeetings_40 rfl (lv_at hl 0 rfl) ?_
        obtain ⟨t10, et10, eh6⟩ := bS eh6
        refine r_getR C hS fl_Merge_18 et10 d_Merge_markMeetings_41 ?_
        refine lv_iload_n hx hb d_Merge_markMeetings_44 rfl (lv_at hl 1 rfl) ?_
        refine lv_dup2_11 hx hb d_Merge_markMeetings_45 rfl rfl ?_
        obtain ⟨t11, et11, eh6⟩ := bS eh6
        refine r_iald C hS et11 d_Merge_markMeetings_46 ?_
        refine lv_bipush (v := (8 : Int32)) hx hb d_Merge_markMeetings_47 (by decide) ?_
        refine lv_ior hx hb d_Merge_markMeetings_49 ?_
        obtain ⟨h12, eh12, eh6⟩ := bS eh6
        refine r_iast C hS eh12 d_Merge_markMeetings_50 (fun H locs hS => ?_)
        obtain rfl := Option.some.inj eh6
        exact kJ51_2 _ _ _ hS (lv_sub hl [0, 1] rfl)
def f_Merge_markMeetings (h : Hp) (l0 : Nat) : Option Hp :=
  ck h 2 l0 (
    f_Merge_markMeetings_2 l0 FU (1 : Int32) h
  )
theorem o_Merge_markMeetings {h : Hp} {l0 : Nat} {r : Hp} (hM : f_Merge_markMeetings h l0 = some r) : isO h 2 l0 = true := by
  unfold f_Merge_markMeetings at hM
  exact (ck_some hM).1
set_option maxHeartbeats 4000000 in
set_option maxRecDepth 100000 in
theorem t_Merge_markMeetings {h : Hp} {l0 : Nat} {r : Hp} (C : Cx base D cI cZ b_Merge_markMeetings 2 "MovedFolders$Merge" "markMeetings" none p s m args meth c) (hM : f_Merge_markMeetings h l0 = some r) (H : Heap) (locs : List Loc) (ls : Array Slot) (hS : RS base D cI cZ s H locs h) (hl : lv_has ls 2 [(0, .ref (base + l0))]) : Wg l base D cI cZ 0 0 0 0 r none p e s m args below meth c H locs 0 0 (F0 m 0 ls []) := by
  have hx := C.1
  have hb := C.2.1
  unfold f_Merge_markMeetings at hM
  replace hM := (ck_some hM).2
  refine lv_iconst (v := (1 : Int32)) hx hb d_Merge_markMeetings_0 (by decide) ?_
  refine lv_istore_n (lv' := [(1, .int (1 : Int32)), (0, .ref (base + l0))]) hx hb d_Merge_markMeetings_1 rfl hl (by decide) rfl (fun ls hl => ?_)
  exact t_Merge_markMeetings_2  C  FU (1 : Int32) h hM _ _ _ hS (lv_sub hl [1, 0] rfl)
theorem c_Merge_markMeetings (l : Launch) (base : Nat) (D : va_G) (cI cZ : ClassId) (h : Hp) (l0 : Nat) {r : Hp} (hM : f_Merge_markMeetings h l0 = some r) : Ct l base D cI cZ y_Merge_markMeetings b_Merge_markMeetings 2 none 0 0 0 0 h [.ref (base + l0)] r none :=
  ct_of (by decide) (Nat.le_of_ble_eq_true rfl) (fun p e s m below meth c ls C hS hl => t_Merge_markMeetings C hM _ _ _ hS hl)
theorem d_Merge_gatherClashes_0 : decode b_Merge_gatherClashes 0 = .ok (.aload_n 0, 1) := by decide +kernel
theorem d_Merge_gatherClashes_1 : decode b_Merge_gatherClashes 1 = .ok (.iconst 0, 1) := by decide +kernel
theorem d_Merge_gatherClashes_2 : decode b_Merge_gatherClashes 2 = .ok (.putfield 34, 3) := by decide +kernel
theorem d_Merge_gatherClashes_5 : decode b_Merge_gatherClashes 5 = .ok (.iconst 0, 1) := by decide +kernel
theorem d_Merge_gatherClashes_6 : decode b_Merge_gatherClashes 6 = .ok (.istore_n 1, 1) := by decide +kernel
theorem d_Merge_gatherClashes_7 : decode b_Merge_gatherClashes 7 = .ok (.iload_n 1, 1) := by decide +kernel
theorem d_Merge_gatherClashes_8 : decode b_Merge_gatherClashes 8 = .ok (.aload_n 0, 1) := by decide +kernel
theorem d_Merge_gatherClashes_9 : decode b_Merge_gatherClashes 9 = .ok (.getfield 24, 3) := by decide +kernel
theorem d_Merge_gatherClashes_12 : decode b_Merge_gatherClashes 12 = .ok (.if_icmp .ge 103, 3) := by decide +kernel
theorem d_Merge_gatherClashes_15 : decode b_Merge_gatherClashes 15 = .ok (.aload_n 0, 1) := by decide +kernel
theorem d_Merge_gatherClashes_16 : decode b_Merge_gatherClashes 16 = .ok (.getfield 18, 3) := by decide +kernel
theorem d_Merge_gatherClashes_19 : decode b_Merge_gatherClashes 19 = .ok (.iload_n 1, 1) := by decide +kernel
theorem d_Merge_gatherClashes_20 : decode b_Merge_gatherClashes 20 = .ok (.iaload, 1) := by decide +kernel
theorem d_Merge_gatherClashes_21 : decode b_Merge_gatherClashes 21 = .ok (.ifCond .ne 6, 3) := by decide +kernel
theorem d_Merge_gatherClashes_24 : decode b_Merge_gatherClashes 24 = .ok (.goto 85, 3) := by decide +kernel
theorem d_Merge_gatherClashes_27 : decode b_Merge_gatherClashes 27 = .ok (.aload_n 0, 1) := by decide +kernel
theorem d_Merge_gatherClashes_28 : decode b_Merge_gatherClashes 28 = .ok (.getfield 34, 3) := by decide +kernel
theorem d_Merge_gatherClashes_31 : decode b_Merge_gatherClashes 31 = .ok (.ifCond .eq 23, 3) := by decide +kernel
theorem d_Merge_gatherClashes_34 : decode b_Merge_gatherClashes 34 = .ok (.aload_n 0, 1) := by decide +kernel
theorem d_Merge_gatherClashes_35 : decode b_Merge_gatherClashes 35 = .ok (.getfield 28, 3) := by decide +kernel
theorem d_Merge_gatherClashes_38 : decode b_Merge_gatherClashes 38 = .ok (.aload_n 0, 1) := by decide +kernel
theorem d_Merge_gatherClashes_39 : decode b_Merge_gatherClashes 39 = .ok (.getfield 34, 3) := by decide +kernel
theorem d_Merge_gatherClashes_42 : decode b_Merge_gatherClashes 42 = .ok (.iconst 1, 1) := by decide +kernel
theorem d_Merge_gatherClashes_43 : decode b_Merge_gatherClashes 43 = .ok (.isub, 1) := by decide +kernel
theorem d_Merge_gatherClashes_44 : decode b_Merge_gatherClashes 44 = .ok (.iaload, 1) := by decide +kernel
theorem d_Merge_gatherClashes_45 : decode b_Merge_gatherClashes 45 = .ok (.aload_n 0, 1) := by decide +kernel
theorem d_Merge_gatherClashes_46 : decode b_Merge_gatherClashes 46 = .ok (.getfield 9, 3) := by decide +kernel
theorem d_Merge_gatherClashes_49 : decode b_Merge_gatherClashes 49 = .ok (.iload_n 1, 1) := by decide +kernel
theorem d_Merge_gatherClashes_50 : decode b_Merge_gatherClashes 50 = .ok (.iaload, 1) := by decide +kernel
theorem d_Merge_gatherClashes_51 : decode b_Merge_gatherClashes 51 = .ok (.if_icmp .eq 38, 3) := by decide +kernel
theorem d_Merge_gatherClashes_54 : decode b_Merge_gatherClashes 54 = .ok (.aload_n 0, 1) := by decide +kernel
theorem d_Merge_gatherClashes_55 : decode b_Merge_gatherClashes 55 = .ok (.getfield 28, 3) := by decide +kernel
theorem d_Merge_gatherClashes_58 : decode b_Merge_gatherClashes 58 = .ok (.aload_n 0, 1) := by decide +kernel
theorem d_Merge_gatherClashes_59 : decode b_Merge_gatherClashes 59 = .ok (.getfield 34, 3) := by decide +kernel
theorem d_Merge_gatherClashes_62 : decode b_Merge_gatherClashes 62 = .ok (.aload_n 0, 1) := by decide +kernel
theorem d_Merge_gatherClashes_63 : decode b_Merge_gatherClashes 63 = .ok (.getfield 9, 3) := by decide +kernel
theorem d_Merge_gatherClashes_66 : decode b_Merge_gatherClashes 66 = .ok (.iload_n 1, 1) := by decide +kernel
theorem d_Merge_gatherClashes_67 : decode b_Merge_gatherClashes 67 = .ok (.iaload, 1) := by decide +kernel
theorem d_Merge_gatherClashes_68 : decode b_Merge_gatherClashes 68 = .ok (.iastore, 1) := by decide +kernel
theorem d_Merge_gatherClashes_69 : decode b_Merge_gatherClashes 69 = .ok (.aload_n 0, 1) := by decide +kernel
theorem d_Merge_gatherClashes_70 : decode b_Merge_gatherClashes 70 = .ok (.getfield 31, 3) := by decide +kernel
theorem d_Merge_gatherClashes_73 : decode b_Merge_gatherClashes 73 = .ok (.aload_n 0, 1) := by decide +kernel
theorem d_Merge_gatherClashes_74 : decode b_Merge_gatherClashes 74 = .ok (.getfield 34, 3) := by decide +kernel
theorem d_Merge_gatherClashes_77 : decode b_Merge_gatherClashes 77 = .ok (.iconst 0, 1) := by decide +kernel
theorem d_Merge_gatherClashes_78 : decode b_Merge_gatherClashes 78 = .ok (.iastore, 1) := by decide +kernel
theorem d_Merge_gatherClashes_79 : decode b_Merge_gatherClashes 79 = .ok (.aload_n 0, 1) := by decide +kernel
theorem d_Merge_gatherClashes_80 : decode b_Merge_gatherClashes 80 = .ok (.dup, 1) := by decide +kernel
theorem d_Merge_gatherClashes_81 : decode b_Merge_gatherClashes 81 = .ok (.getfield 34, 3) := by decide +kernel
theorem d_Merge_gatherClashes_84 : decode b_Merge_gatherClashes 84 = .ok (.iconst 1, 1) := by decide +kernel
theorem d_Merge_gatherClashes_85 : decode b_Merge_gatherClashes 85 = .ok (.iadd, 1) := by decide +kernel
theorem d_Merge_gatherClashes_86 : decode b_Merge_gatherClashes 86 = .ok (.putfield 34, 3) := by decide +kernel
theorem d_Merge_gatherClashes_89 : decode b_Merge_gatherClashes 89 = .ok (.aload_n 0, 1) := by decide +kernel
theorem d_Merge_gatherClashes_90 : decode b_Merge_gatherClashes 90 = .ok (.getfield 31, 3) := by decide +kernel
theorem d_Merge_gatherClashes_93 : decode b_Merge_gatherClashes 93 = .ok (.aload_n 0, 1) := by decide +kernel
theorem d_Merge_gatherClashes_94 : decode b_Merge_gatherClashes 94 = .ok (.getfield 34, 3) := by decide +kernel
theorem d_Merge_gatherClashes_97 : decode b_Merge_gatherClashes 97 = .ok (.iconst 1, 1) := by decide +kernel
theorem d_Merge_gatherClashes_98 : decode b_Merge_gatherClashes 98 = .ok (.isub, 1) := by decide +kernel
theorem d_Merge_gatherClashes_99 : decode b_Merge_gatherClashes 99 = .ok (.dup2, 1) := by decide +kernel
theorem d_Merge_gatherClashes_100 : decode b_Merge_gatherClashes 100 = .ok (.iaload, 1) := by decide +kernel
theorem d_Merge_gatherClashes_101 : decode b_Merge_gatherClashes 101 = .ok (.aload_n 0, 1) := by decide +kernel
theorem d_Merge_gatherClashes_102 : decode b_Merge_gatherClashes 102 = .ok (.getfield 18, 3) := by decide +kernel
theorem d_Merge_gatherClashes_105 : decode b_Merge_gatherClashes 105 = .ok (.iload_n 1, 1) := by decide +kernel
theorem d_Merge_gatherClashes_106 : decode b_Merge_gatherClashes 106 = .ok (.iaload, 1) := by decide +kernel
theorem d_Merge_gatherClashes_107 : decode b_Merge_gatherClashes 107 = .ok (.ior, 1) := by decide +kernel
theorem d_Merge_gatherClashes_108 : decode b_Merge_gatherClashes 108 = .ok (.iastore, 1) := by decide +kernel
theorem d_Merge_gatherClashes_109 : decode b_Merge_gatherClashes 109 = .ok (.iinc 1 1, 3) := by decide +kernel
theorem d_Merge_gatherClashes_112 : decode b_Merge_gatherClashes 112 = .ok (.goto (-105), 3) := by decide +kernel
theorem d_Merge_gatherClashes_115 : decode b_Merge_gatherClashes 115 = .ok (.return_, 1) := by decide +kernel
def f_Merge_gatherClashes_7 (l0 : Nat) : Nat → Int32 → Hp → Option Hp
  | 0, _, _ => none
  | n + 1, l1, h =>
    (gI h 2 l0 4).bind fun t2 =>
    if t2 ≤ l1 then (
      some h
    ) else (
      (gR h 2 l0 2).bind fun t3 =>
      (gA h false t3 l1).bind fun t4 =>
      (
        if t4 = (0 : Int32) then (
          some h
        ) else (
          (gI h 2 l0 7).bind fun t6 =>
          (
            if t6 = (0 : Int32) then (
              (gR h 2 l0 5).bind fun t8 =>
              (gI h 2 l0 7).bind fun t9 =>
              (gR h 2 l0 0).bind fun t10 =>
              (gA h false t10 l1).bind fun t11 =>
              (sA h t8 t9 t11).bind fun h12 =>
              (gR h12 2 l0 6).bind fun t13 =>
              (gI h12 2 l0 7).bind fun t14 =>
              (sA h12 t13 t14 (0 : Int32)).bind fun h15 =>
              (gI h15 2 l0 7).bind fun t16 =>
              (sI h15 2 l0 7 (t16 + (1 : Int32))).bind fun h17 =>
              some h17
            ) else (
              (gR h 2 l0 5).bind fun t18 =>
              (gI h 2 l0 7).bind fun t19 =>
              (gA h false t18 (t19 - (1 : Int32))).bind fun t20 =>
              (gR h 2 l0 0).bind fun t21 =>
              (gA h false t21 l1).bind fun t22 =>
              if t20 = t22 then (
                some h
              ) else (
                (gR h 2 l0 5).bind fun t23 =>
                (gI h 2 l0 7).bind fun t24 =>
                (gR h 2 l0 0).bind fun t25 =>
                (gA h false t25 l1).bind fun t26 =>
                (sA h t23 t24 t26).bind fun h27 =>
                (gR h27 2 l0 6).bind fun t28 =>
                (gI h27 2 l0 7).bind fun t29 =>
                (sA h27 t28 t29 (0 : Int32)).bind fun h30 =>
                (gI h30 2 l0 7).bind fun t31 =>
                (sI h30 2 l0 7 (t31 + (1 : Int32))).bind fun h32 =>
                some h32
              )
            )
          ).bind fun h7 =>
          (gR h7 2 l0 6).bind fun t33 =>
          (gI h7 2 l0 7).bind fun t34 =>
          (gA h7 false t33 (t34 - (1 : Int32))).bind fun t35 =>
          (gR h7 2 l0 2).bind fun t36 =>
          (gA h7 false t36 l1).bind fun t37 =>
          (sA h7 t33 (t34 - (1 : Int32)) (t35 ||| t37)).bind fun h38 =>
          some h38
        )
      ).bind fun h5 =>
      f_Merge_gatherClashes_7 l0 n (l1 + (1 : Int32)) h5
    )
set_option maxHeartbeats 4000000 in
set_option maxRecDepth 100000 in
theorem t_Merge_gatherClashes_7 {l0 : Nat} {r : Hp} (C : Cx base D cI cZ b_Merge_gatherClashes 2 "MovedFolders$Merge" "gatherClashes" none p s m args meth c)  : ∀ (n : Nat) (l1 : Int32) (h : Hp), f_Merge_gatherClashes_7 l0 n l1 h = some r → ∀ (H : Heap) (locs : List Loc) (ls : Array Slot), RS base D cI cZ s H locs h → lv_has ls 2 [(0, .ref (base + l0)), (1, .int l1)] → Wg l base D cI cZ 0 0 0 0 r none p e s m args below meth c H locs 0 0 (F0 m 7 ls []) := by
  have hx := C.1
  have hb := C.2.1
  intro n
  induction n with
  | zero =>
    intro l1 h hM
    rw [f_Merge_gatherClashes_7] at hM
    cases hM
  | succ n ih =>
    intro l1 h hM H locs ls hS hl
    rw [f_Merge_gatherClashes_7] at hM
    refine lv_iload_n hx hb d_Merge_gatherClashes_7 rfl (lv_at hl 1 rfl) ?_
    refine lv_aload_n hx hb d_Merge_gatherClashes_8 rfl (lv_at hl 0 rfl) ?_
    obtain ⟨t2, et2, hM⟩ := bS hM
    refine r_getI C hS fl_Merge_24 et2 d_Merge_gatherClashes_9 ?_
    refine lv_icmp_ge (tgt := 115) hx hb d_Merge_gatherClashes_12 (by decide) (fun c12_1 => ?_) (fun c12_1 => ?_)
    · rw [if_pos c12_1] at hM
      obtain rfl := Option.some.inj hM
      exact r_vret C hS d_Merge_gatherClashes_115
    · rw [if_neg c12_1] at hM
      refine lv_aload_n hx hb d_Merge_gatherClashes_15 rfl (lv_at hl 0 rfl) ?_
      obtain ⟨t3, et3, hM⟩ := bS hM
      refine r_getR C hS fl_Merge_18 et3 d_Merge_gatherClashes_16 ?_
      refine lv_iload_n hx hb d_Merge_gatherClashes_19 rfl (lv_at hl 1 rfl) ?_
      obtain ⟨t4, et4, hM⟩ := bS hM
      refine r_iald C hS et4 d_Merge_gatherClashes_20 ?_
      obtain ⟨h5, eh5, hM⟩ := bS hM
      have kJ109_2 : ∀ (H : Heap) (locs : List Loc) (ls : Array Slot), RS base D cI cZ s H locs h5 → lv_has ls 2 [(0, .ref (base + l0)), (1, .int l1)] → Wg l base D cI cZ 0 0 0 0 r none p e s m args below meth c H locs 0 0 (F0 m 109 ls []) := by
        intro H locs ls hS hl
        refine lv_iinc (v := (l1 + (1 : Int32))) (lv' := [(1, .int (l1 + (1 : Int32))), (0, .ref (base + l0))]) hx hb d_Merge_gatherClashes_109 hl (k := 1) rfl (by rw [oi_1]) (by decide) rfl (fun ls hl => ?_)
        refine lv_goto (tgt := 7) hx hb d_Merge_gatherClashes_112 (by decide) ?_
        exact ih (l1 + (1 : Int32)) h5 hM _ _ _ hS (lv_sub hl [1, 0] rfl)
      refine lv_if_ne (tgt := 27) hx hb d_Merge_gatherClashes_21 (by decide) (fun c21_3 => ?_) (fun c21_3 => ?_)
      · rw [if_neg c21_3] at eh5
        refine lv_aload_n hx hb d_Merge_gatherClashes_27 rfl (lv_at hl 0 rfl) ?_
        obtain ⟨t6, et6, eh5⟩ := bS eh5
        refine r_getI C hS fl_Merge_34 et6 d_Merge_gatherClashes_28 ?_
        obtain ⟨h7, eh7, eh5⟩ := bS eh5
        have kJ89_4 : ∀ (H : Heap) (locs : List Loc) (ls : Array Slot), RS base D cI cZ s H locs h7 → lv_has ls 2 [(0, .ref (base + l0)), (1, .int l1)] → Wg l base D cI cZ 0 0 0 0 r none p e s m args below meth c H locs 0 0 (F0 m 89 ls []) := by
          intro H locs ls hS hl
          refine lv_aload_n hx hb d_Merge_gatherClashes_89 rfl (lv_at hl 0 rfl) ?_
          obtain ⟨t33, et33, eh5⟩ := bS eh5
          refine r_getR C hS fl_Merge_31 et33 d_Merge_gatherClashes_90 ?_
          refine lv_aload_n hx hb d_Merge_gatherClashes_93 rfl (lv_at hl 0 rfl) ?_
          obtain ⟨t34, et34, eh5⟩ := bS eh5
          refine r_getI C hS fl_Merge_34 et34 d_Merge_gatherClashes_94 ?_
          refine lv_iconst (v := (1 : Int32)) hx hb d_Merge_gatherClashes_97 (by decide) ?_
          refine lv_isub hx hb d_Merge_gatherClashes_98 ?_
          refine lv_dup2_11 hx hb d_Merge_gatherClashes_99 rfl rfl ?_
          obtain ⟨t35, et35, eh5⟩ := bS eh5
          refine r_iald C hS et35 d_Merge_gatherClashes_100 ?_
          refine lv_aload_n hx hb d_Merge_gatherClashes_101 rfl (lv_at hl 0 rfl) ?_
          obtain ⟨t36, et36, eh5⟩ := bS eh5
          refine r_getR C hS fl_Merge_18 et36 d_Merge_gatherClashes_102 ?_
          refine lv_iload_n hx hb d_Merge_gatherClashes_105 rfl (lv_at hl 1 rfl) ?_
          obtain ⟨t37, et37, eh5⟩ := bS eh5
          refine r_iald C hS et37 d_Merge_gatherClashes_106 ?_
          refine lv_ior hx hb d_Merge_gatherClashes_107 ?_
          obtain ⟨h38, eh38, eh5⟩ := bS eh5
          refine r_iast C hS eh38 d_Merge_gatherClashes_108 (fun H locs hS => ?_)
          obtain rfl := Option.some.inj eh5
          exact kJ109_2 _ _ _ hS (lv_sub hl [0, 1] rfl)
        refine lv_if_eq (tgt := 54) hx hb d_Merge_gatherClashes_31 (by decide) (fun c31_5 => ?_) (fun c31_5 => ?_)
        · rw [if_pos c31_5] at eh7
          refine lv_aload_n hx hb d_Merge_gatherClashes_54 rfl (lv_at hl 0 rfl) ?_
          obtain ⟨t8, et8, eh7⟩ := bS eh7
          refine r_getR C hS fl_Merge_28 et8 d_Merge_gatherClashes_55 ?_
          refine lv_aload_n hx hb d_Merge_gatherClashes_58 rfl (lv_at hl 0 rfl) ?_
          obtain ⟨t9, et9, eh7⟩ := bS eh7
          refine r_getI C hS fl_Merge_34 et9 d_Merge_gatherClashes_59 ?_
          refine lv_aload_n hx hb d_Merge_gatherClashes_62 rfl (lv_at hl 0 rfl) ?_
          obtain ⟨t10, et10, eh7⟩ := bS eh7
          refine r_getR C hS fl_Merge_9 et10 d_Merge_gatherClashes_63 ?_
          refine lv_iload_n hx hb d_Merge_gatherClashes_66 rfl (lv_at hl 1 rfl) ?_
          obtain ⟨t11, et11, eh7⟩ := bS eh7
          refine r_iald C hS et11 d_Merge_gatherClashes_67 ?_
          obtain ⟨h12, eh12, eh7⟩ := bS eh7
          refine r_iast C hS eh12 d_Merge_gatherClashes_68 (fun H locs hS => ?_)
          refine lv_aload_n hx hb d_Merge_gatherClashes_69 rfl (lv_at hl 0 rfl) ?_
          obtain ⟨t13, et13, eh7⟩ := bS eh7
          refine r_getR C hS fl_Merge_31 et13 d_Merge_gatherClashes_70 ?_
          refine lv_aload_n hx hb d_Merge_gatherClashes_73 rfl (lv_at hl 0 rfl) ?_
          obtain ⟨t14, et14, eh7⟩ := bS eh7
          refine r_getI C hS fl_Merge_34 et14 d_Merge_gatherClashes_74 ?_
          refine lv_iconst (v := (0 : Int32)) hx hb d_Merge_gatherClashes_77 (by decide) ?_
          obtain ⟨h15, eh15, eh7⟩ := bS eh7
          refine r_iast C hS eh15 d_Merge_gatherClashes_78 (fun H locs hS => ?_)
          refine lv_aload_n hx hb d_Merge_gatherClashes_79 rfl (lv_at hl 0 rfl) ?_
          refine lv_dup hx hb d_Merge_gatherClashes_80 rfl ?_
          obtain ⟨t16, et16, eh7⟩ := bS eh7
          refine r_getI C hS fl_Merge_34 et16 d_Merge_gatherClashes_81 ?_
          refine lv_iconst (v := (1 : Int32)) hx hb d_Merge_gatherClashes_84 (by decide) ?_
          refine lv_iadd hx hb d_Merge_gatherClashes_85 ?_
          obtain ⟨h17, eh17, eh7⟩ := bS eh7
          refine r_putI C hS fp_Merge_34 eh17 d_Merge_gatherClashes_86 (fun H locs hS => ?_)
          obtain rfl := Option.some.inj eh7
          exact kJ89_4 _ _ _ hS (lv_sub hl [0, 1] rfl)
        · rw [if_neg c31_5] at eh7
          refine lv_aload_n hx hb d_Merge_gatherClashes_34 rfl (lv_at hl 0 rfl) ?_
          obtain ⟨t18, et18, eh7⟩ := bS eh7
          refine r_getR C hS fl_Merge_28 et18 d_Merge_gatherClashes_35 ?_
          refine lv_aload_n hx hb d_Merge_gatherClashes_38 rfl (lv_at hl 0 rfl) ?_
          obtain ⟨t19, et19, eh7⟩ := bS eh7
          refine r_getI C hS fl_Merge_34 et19 d_Merge_gatherClashes_39 ?_
          refine lv_iconst (v := (1 : Int32)) hx hb d_Merge_gatherClashes_42 (by decide) ?_
          refine lv_isub hx hb d_Merge_gatherClashes_43 ?_
          obtain ⟨t20, et20, eh7⟩ := bS eh7
          refine r_iald C hS et20 d_Merge_gatherClashes_44 ?_
          refine lv_aload_n hx hb d_Merge_gatherClashes_45 rfl (lv_at hl 0 rfl) ?_
          obtain ⟨t21, et21, eh7⟩ := bS eh7
          refine r_getR C hS fl_Merge_9 et21 d_Merge_gatherClashes_46 ?_
          refine lv_iload_n hx hb d_Merge_gatherClashes_49 rfl (lv_at hl 1 rfl) ?_
          obtain ⟨t22, et22, eh7⟩ := bS eh7
          refine r_iald C hS et22 d_Merge_gatherClashes_50 ?_
          refine lv_icmp_eq (tgt := 89) hx hb d_Merge_gatherClashes_51 (by decide) (fun c51_6 => ?_) (fun c51_6 => ?_)
          · rw [if_pos c51_6] at eh7
            obtain rfl := Option.some.inj eh7
            exact kJ89_4 _ _ _ hS (lv_sub hl [0, 1] rfl)
          · rw [if_neg c51_6] at eh7
            refine lv_aload_n hx hb d_Merge_gatherClashes_54 rfl (lv_at hl 0 rfl) ?_
            obtain ⟨t23, et23, eh7⟩ := bS eh7
            refine r_getR C hS fl_Merge_28 et23 d_Merge_gatherClashes_55 ?_
            refine lv_aload_n hx hb d_Merge_gatherClashes_58 rfl (lv_at hl 0 rfl) ?_
            obtain ⟨t24, et24, eh7⟩ := bS eh7
            refine r_getI C hS fl_Merge_34 et24 d_Merge_gatherClashes_59 ?_
            refine lv_aload_n hx hb d_Merge_gatherClashes_62 rfl (lv_at hl 0 rfl) ?_
            obtain ⟨t25, et25, eh7⟩ := bS eh7
            refine r_getR C hS fl_Merge_9 et25 d_Merge_gatherClashes_63 ?_
            refine lv_iload_n hx hb d_Merge_gatherClashes_66 rfl (lv_at hl 1 rfl) ?_
            obtain ⟨t26, et26, eh7⟩ := bS eh7
            refine r_iald C hS et26 d_Merge_gatherClashes_67 ?_
            obtain ⟨h27, eh27, eh7⟩ := bS eh7
            refine r_iast C hS eh27 d_Merge_gatherClashes_68 (fun H locs hS => ?_)
            refine lv_aload_n hx hb d_Merge_gatherClashes_69 rfl (lv_at hl 0 rfl) ?_
            obtain ⟨t28, et28, eh7⟩ := bS eh7
            refine r_getR C hS fl_Merge_31 et28 d_Merge_gatherClashes_70 ?_
            refine lv_aload_n hx hb d_Merge_gatherClashes_73 rfl (lv_at hl 0 rfl) ?_
            obtain ⟨t29, et29, eh7⟩ := bS eh7
            refine r_getI C hS fl_Merge_34 et29 d_Merge_gatherClashes_74 ?_
            refine lv_iconst (v := (0 : Int32)) hx hb d_Merge_gatherClashes_77 (by decide) ?_
            obtain ⟨h30, eh30, eh7⟩ := bS eh7
            refine r_iast C hS eh30 d_Merge_gatherClashes_78 (fun H locs hS => ?_)
            refine lv_aload_n hx hb d_Merge_gatherClashes_79 rfl (lv_at hl 0 rfl) ?_
            refine lv_dup hx hb d_Merge_gatherClashes_80 rfl ?_
            obtain ⟨t31, et31, eh7⟩ := bS eh7
            refine r_getI C hS fl_Merge_34 et31 d_Merge_gatherClashes_81 ?_
            refine lv_iconst (v := (1 : Int32)) hx hb d_Merge_gatherClashes_84 (by decide) ?_
            refine lv_iadd hx hb d_Merge_gatherClashes_85 ?_
            obtain ⟨h32, eh32, eh7⟩ := bS eh7
            refine r_putI C hS fp_Merge_34 eh32 d_Merge_gatherClashes_86 (fun H locs hS => ?_)
            obtain rfl := Option.some.inj eh7
            exact kJ89_4 _ _ _ hS (lv_sub hl [0, 1] rfl)
      · rw [if_pos c21_3] at eh5
        refine lv_goto (tgt := 109) hx hb d_Merge_gatherClashes_24 (by decide) ?_
        obtain rfl := Option.some.inj eh5
        exact kJ109_2 _ _ _ hS (lv_sub hl [0, 1] rfl)
def f_Merge_gatherClashes (h : Hp) (l0 : Nat) : Option Hp :=
  ck h 2 l0 (
    (sI h 2 l0 7 (0 : Int32)).bind fun h1 =>
    f_Merge_gatherClashes_7 l0 FU (0 : Int32) h1
  )
theorem o_Merge_gatherClashes {h : Hp} {l0 : Nat} {r : Hp} (hM : f_Merge_gatherClashes h l0 = some r) : isO h 2 l0 = true := by
  unfold f_Merge_gatherClashes at hM
  exact (ck_some hM).1
set_option maxHeartbeats 4000000 in
set_option maxRecDepth 100000 in
theorem t_Merge_gatherClashes {h : Hp} {l0 : Nat} {r : Hp} (C : Cx base D cI cZ b_Merge_gatherClashes 2 "MovedFolders$Merge" "gatherClashes" none p s m args meth c) (hM : f_Merge_gatherClashes h l0 = some r) (H : Heap) (locs : List Loc) (ls : Array Slot) (hS : RS base D cI cZ s H locs h) (hl : lv_has ls 2 [(0, .ref (base + l0))]) : Wg l base D cI cZ 0 0 0 0 r none p e s m args below meth c H locs 0 0 (F0 m 0 ls []) := by
  have hx := C.1
  have hb := C.2.1
  unfold f_Merge_gatherClashes at hM
  replace hM := (ck_some hM).2
  refine lv_aload_n hx hb d_Merge_gatherClashes_0 rfl (lv_at hl 0 rfl) ?_
  refine lv_iconst (v := (0 : Int32)) hx hb d_Merge_gatherClashes_1 (by decide) ?_
  obtain ⟨h1, eh1, hM⟩ := bS hM
  refine r_putI C hS fp_Merge_34 eh1 d_Merge_gatherClashes_2 (fun H locs hS => ?_)
  refine lv_iconst (v := (0 : Int32)) hx hb d_Merge_gatherClashes_5 (by decide) ?_
  refine lv_istore_n (lv' := [(1, .int (0 : Int32)), (0, .ref (base + l0))]) hx hb d_Merge_gatherClashes_6 rfl hl (by decide) rfl (fun ls hl => ?_)
  exact t_Merge_gatherClashes_7  C  FU (0 : Int32) h1 hM _ _ _ hS (lv_sub hl [1, 0] rfl)
theorem c_Merge_gatherClashes (l : Launch) (base : Nat) (D : va_G) (cI cZ : ClassId) (h : Hp) (l0 : Nat) {r : Hp} (hM : f_Merge_gatherClashes h l0 = some r) : Ct l base D cI cZ y_Merge_gatherClashes b_Merge_gatherClashes 2 none 0 0 0 0 h [.ref (base + l0)] r none :=
  ct_of (by decide) (Nat.le_of_ble_eq_true rfl) (fun p e s m below meth c ls C hS hl => t_Merge_gatherClashes C hM _ _ _ hS hl)
theorem d_Merge_make_0 : decode b_Merge_make 0 = .ok (.aload_n 0, 1) := by decide +kernel
theorem d_Merge_make_1 : decode b_Merge_make 1 = .ok (.iconst 0, 1) := by decide +kernel
theorem d_Merge_make_2 : decode b_Merge_make 2 = .ok (.putfield 24, 3) := by decide +kernel
theorem d_Merge_make_5 : decode b_Merge_make 5 = .ok (.iconst 0, 1) := by decide +kernel
theorem d_Merge_make_6 : decode b_Merge_make 6 = .ok (.istore 4, 2) := by decide +kernel
theorem d_Merge_make_8 : decode b_Merge_make 8 = .ok (.iload 4, 2) := by decide +kernel
theorem d_Merge_make_10 : decode b_Merge_make 10 = .ok (.aload_n 1, 1) := by decide +kernel
theorem d_Merge_make_11 : decode b_Merge_make 11 = .ok (.getfield 49, 3) := by decide +kernel
theorem d_Merge_make_14 : decode b_Merge_make 14 = .ok (.invokevirtual 55, 3) := by decide +kernel
theorem d_Merge_make_17 : decode b_Merge_make 17 = .ok (.if_icmp .ge 18, 3) := by decide +kernel
theorem d_Merge_make_20 : decode b_Merge_make 20 = .ok (.aload_n 0, 1) := by decide +kernel
theorem d_Merge_make_21 : decode b_Merge_make 21 = .ok (.aload_n 1, 1) := by decide +kernel
theorem d_Merge_make_22 : decode b_Merge_make 22 = .ok (.aload_n 2, 1) := by decide +kernel
theorem d_Merge_make_23 : decode b_Merge_make 23 = .ok (.aload_n 3, 1) := by decide +kernel
theorem d_Merge_make_24 : decode b_Merge_make 24 = .ok (.iload 4, 2) := by decide +kernel
theorem d_Merge_make_26 : decode b_Merge_make 26 = .ok (.invokevirtual 59, 3) := by decide +kernel
theorem d_Merge_make_29 : decode b_Merge_make 29 = .ok (.iinc 4 1, 3) := by decide +kernel
theorem d_Merge_make_32 : decode b_Merge_make 32 = .ok (.goto (-24), 3) := by decide +kernel
theorem d_Merge_make_35 : decode b_Merge_make 35 = .ok (.aload_n 0, 1) := by decide +kernel
theorem d_Merge_make_36 : decode b_Merge_make 36 = .ok (.aload_n 1, 1) := by decide +kernel
theorem d_Merge_make_37 : decode b_Merge_make 37 = .ok (.aload_n 2, 1) := by decide +kernel
theorem d_Merge_make_38 : decode b_Merge_make 38 = .ok (.aload_n 3, 1) := by decide +kernel
theorem d_Merge_make_39 : decode b_Merge_make 39 = .ok (.invokevirtual 63, 3) := by decide +kernel
theorem d_Merge_make_42 : decode b_Merge_make 42 = .ok (.aload_n 0, 1) := by decide +kernel
theorem d_Merge_make_43 : decode b_Merge_make 43 = .ok (.aload_n 1, 1) := by decide +kernel
theorem d_Merge_make_44 : decode b_Merge_make 44 = .ok (.aload_n 2, 1) := by decide +kernel
theorem d_Merge_make_45 : decode b_Merge_make 45 = .ok (.aload_n 3, 1) := by decide +kernel
theorem d_Merge_make_46 : decode b_Merge_make 46 = .ok (.invokevirtual 67, 3) := by decide +kernel
theorem d_Merge_make_49 : decode b_Merge_make 49 = .ok (.aload_n 0, 1) := by decide +kernel
theorem d_Merge_make_50 : decode b_Merge_make 50 = .ok (.aload_n 1, 1) := by decide +kernel
theorem d_Merge_make_51 : decode b_Merge_make 51 = .ok (.getfield 70, 3) := by decide +kernel
theorem d_Merge_make_54 : decode b_Merge_make 54 = .ok (.invokevirtual 73, 3) := by decide +kernel
theorem d_Merge_make_57 : decode b_Merge_make 57 = .ok (.aload_n 0, 1) := by decide +kernel
theorem d_Merge_make_58 : decode b_Merge_make 58 = .ok (.invokevirtual 77, 3) := by decide +kernel
theorem d_Merge_make_61 : decode b_Merge_make 61 = .ok (.aload_n 0, 1) := by decide +kernel
theorem d_Merge_make_62 : decode b_Merge_make 62 = .ok (.invokevirtual 80, 3) := by decide +kernel
theorem d_Merge_make_65 : decode b_Merge_make 65 = .ok (.return_, 1) := by decide +kernel
def f_Merge_make_8 (l0 : Nat) (l1 : Nat) (l2 : Nat) (l3 : Nat) : Nat → Int32 → Hp → Option Hp
  | 0, _, _ => none
  | n + 1, l4, h =>
    (gR h 0 l1 0).bind fun t2 =>
    (f_Tree_size h t2).bind fun t3 =>
    if t3 ≤ l4 then (
      (f_Merge_findGoals h l0 l1 l2 l3).bind fun h4 =>
      (f_Merge_addNewOfOne h4 l0 l1 l2 l3).bind fun h5 =>
      (gR h5 0 l1 2).bind fun t6 =>
      (f_Merge_addNewOfTwo h5 l0 t6).bind fun h7 =>
      (f_Merge_markMeetings h7 l0).bind fun h8 =>
      (f_Merge_gatherClashes h8 l0).bind fun h9 =>
      some h9
    ) else (
      (f_Merge_addOld h l0 l1 l2 l3 l4).bind fun h10 =>
      f_Merge_make_8 l0 l1 l2 l3 n (l4 + (1 : Int32)) h10
    )
set_option maxHeartbeats 4000000 in
set_option maxRecDepth 100000 in
theorem t_Merge_make_8 {l0 : Nat} {l1 : Nat} {l2 : Nat} {l3 : Nat} {r : Hp} (C : Cx base D cI cZ b_Merge_make 5 "MovedFolders$Merge" "make" none p s m args meth c)  : ∀ (n : Nat) (l4 : Int32) (h : Hp), f_Merge_make_8 l0 l1 l2 l3 n l4 h = some r → ∀ (H : Heap) (locs : List Loc) (ls : Array Slot), RS base D cI cZ s H locs h → lv_has ls 5 [(0, .ref (base + l0)), (1, .ref (base + l1)), (2, .ref (base + l2)), (3, .ref (base + l3)), (4, .int l4)] → Wg l base D cI cZ 4 113 0 0 r none p e s m args below meth c H locs 0 0 (F0 m 8 ls []) := by
  have hx := C.1
  have hb := C.2.1
  intro n
  induction n with
  | zero =>
    intro l4 h hM
    rw [f_Merge_make_8] at hM
    cases hM
  | succ n ih =>
    intro l4 h hM H locs ls hS hl
    rw [f_Merge_make_8] at hM
    refine lv_iload hx hb d_Merge_make_8 (lv_at hl 4 rfl) ?_
    refine lv_aload_n hx hb d_Merge_make_10 rfl (lv_at hl 1 rfl) ?_
    obtain ⟨t2, et2, hM⟩ := bS hM
    refine r_getR C hS fl_Merge_49 et2 d_Merge_make_11 ?_
    obtain ⟨t3, et3, hM⟩ := bS hM
    refine r_callVi (x := t3) C hS cv_Merge_55 (c_Tree_size l base D cI cZ h t2 et3) (o_Tree_size et3) (rest := [.int l4]) rfl hl.1 rfl (Nat.le_of_ble_eq_true rfl) ⟨(Nat.le_of_ble_eq_true rfl), (Nat.le_of_ble_eq_true rfl)⟩ ⟨(Nat.le_of_ble_eq_true rfl), (Nat.le_of_ble_eq_true rfl)⟩ d_Merge_make_14 (fun H locs hS => ?_)
    refine lv_icmp_ge (tgt := 35) hx hb d_Merge_make_17 (by decide) (fun c17_1 => ?_) (fun c17_1 => ?_)
    · rw [if_pos c17_1] at hM
      refine lv_aload_n hx hb d_Merge_make_35 rfl (lv_at hl 0 rfl) ?_
      refine lv_aload_n hx hb d_Merge_make_36 rfl (lv_at hl 1 rfl) ?_
      refine lv_aload_n hx hb d_Merge_make_37 rfl (lv_at hl 2 rfl) ?_
      refine lv_aload_n hx hb d_Merge_make_38 rfl (lv_at hl 3 rfl) ?_
      obtain ⟨h4, eh4, hM⟩ := bS hM
      refine r_callVv C hS cv_Merge_63 (c_Merge_findGoals l base D cI cZ h l0 l1 l2 l3 eh4) (o_Merge_findGoals eh4) (rest := []) rfl hl.1 rfl (Nat.le_of_ble_eq_true rfl) ⟨(Nat.le_of_ble_eq_true rfl), (Nat.le_of_ble_eq_true rfl)⟩ ⟨(Nat.le_of_ble_eq_true rfl), (Nat.le_of_ble_eq_true rfl)⟩ d_Merge_make_39 (fun H locs hS => ?_)
      refine lv_aload_n hx hb d_Merge_make_42 rfl (lv_at hl 0 rfl) ?_
      refine lv_aload_n hx hb d_Merge_make_43 rfl (lv_at hl 1 rfl) ?_
      refine lv_aload_n hx hb d_Merge_make_44 rfl (lv_at hl 2 rfl) ?_
      refine lv_aload_n hx hb d_Merge_make_45 rfl (lv_at hl 3 rfl) ?_
      obtain ⟨h5, eh5, hM⟩ := bS hM
      refine r_callVv C hS cv_Merge_67 (c_Merge_addNewOfOne l base D cI cZ h4 l0 l1 l2 l3 eh5) (o_Merge_addNewOfOne eh5) (rest := []) rfl hl.1 rfl (Nat.le_of_ble_eq_true rfl) ⟨(Nat.le_of_ble_eq_true rfl), (Nat.le_of_ble_eq_true rfl)⟩ ⟨(Nat.le_of_ble_eq_true rfl), (Nat.le_of_ble_eq_true rfl)⟩ d_Merge_make_46 (fun H locs hS => ?_)
      refine lv_aload_n hx hb d_Merge_make_49 rfl (lv_at hl 0 rfl) ?_
      refine lv_aload_n hx hb d_Merge_make_50 rfl (lv_at hl 1 rfl) ?_
      obtain ⟨t6, et6, hM⟩ := bS hM
      refine r_getR C hS fl_Merge_70 et6 d_Merge_make_51 ?_
      obtain ⟨h7, eh7, hM⟩ := bS hM
      refine r_callVv C hS cv_Merge_73 (c_Merge_addNewOfTwo l base D cI cZ h5 l0 t6 eh7) (o_Merge_addNewOfTwo eh7) (rest := []) rfl hl.1 rfl (Nat.le_of_ble_eq_true rfl) ⟨(Nat.le_of_ble_eq_true rfl), (Nat.le_of_ble_eq_true rfl)⟩ ⟨(Nat.le_of_ble_eq_true rfl), (Nat.le_of_ble_eq_true rfl)⟩ d_Merge_make_54 (fun H locs hS => ?_)
      refine lv_aload_n hx hb d_Merge_make_57 rfl (lv_at hl 0 rfl) ?_
      obtain ⟨h8, eh8, hM⟩ := bS hM
      refine r_callVv C hS cv_Merge_77 (c_Merge_markMeetings l base D cI cZ h7 l0 eh8) (o_Merge_markMeetings eh8) (rest := []) rfl hl.1 rfl (Nat.le_of_ble_eq_true rfl) ⟨(Nat.le_of_ble_eq_true rfl), (Nat.le_of_ble_eq_true rfl)⟩ ⟨(Nat.le_of_ble_eq_true rfl), (Nat.le_of_ble_eq_true rfl)⟩ d_Merge_make_58 (fun H locs hS => ?_)
      refine lv_aload_n hx hb d_Merge_make_61 rfl (lv_at hl 0 rfl) ?_
      obtain ⟨h9, eh9, hM⟩ := bS hM
      refine r_callVv C hS cv_Merge_80 (c_Merge_gatherClashes l base D cI cZ h8 l0 eh9) (o_Merge_gatherClashes eh9) (rest := []) rfl hl.1 rfl (Nat.le_of_ble_eq_true rfl) ⟨(Nat.le_of_ble_eq_true rfl), (Nat.le_of_ble_eq_true rfl)⟩ ⟨(Nat.le_of_ble_eq_true rfl), (Nat.le_of_ble_eq_true rfl)⟩ d_Merge_make_62 (fun H locs hS => ?_)
      obtain rfl := Option.some.inj hM
      exact r_vret C hS d_Merge_make_65
    · rw [if_neg c17_1] at hM
      refine lv_aload_n hx hb d_Merge_make_20 rfl (lv_at hl 0 rfl) ?_
      refine lv_aload_n hx hb d_Merge_make_21 rfl (lv_at hl 1 rfl) ?_
      refine lv_aload_n hx hb d_Merge_make_22 rfl (lv_at hl 2 rfl) ?_
      refine lv_aload_n hx hb d_Merge_make_23 rfl (lv_at hl 3 rfl) ?_
      refine lv_iload hx hb d_Merge_make_24 (lv_at hl 4 rfl) ?_
      obtain ⟨h10, eh10, hM⟩ := bS hM
      refine r_callVv C hS cv_Merge_59 (c_Merge_addOld l base D cI cZ h l0 l1 l2 l3 l4 eh10) (o_Merge_addOld eh10) (rest := []) rfl hl.1 rfl (Nat.le_of_ble_eq_true rfl) ⟨(Nat.le_of_ble_eq_true rfl), (Nat.le_of_ble_eq_true rfl)⟩ ⟨(Nat.le_of_ble_eq_true rfl), (Nat.le_of_ble_eq_true rfl)⟩ d_Merge_make_26 (fun H locs hS => ?_)
      refine lv_iinc (v := (l4 + (1 : Int32))) (lv' := [(4, .int (l4 + (1 : Int32))), (0, .ref (base + l0)), (1, .ref (base + l1)), (2, .ref (base + l2)), (3, .ref (base + l3))]) hx hb d_Merge_make_29 hl (k := 4) rfl (by rw [oi_1]) (by decide) rfl (fun ls hl => ?_)
      refine lv_goto (tgt := 8) hx hb d_Merge_make_32 (by decide) ?_
      exact ih (l4 + (1 : Int32)) h10 hM _ _ _ hS (lv_sub hl [1, 2, 3, 4, 0] rfl)
def f_Merge_make (h : Hp) (l0 : Nat) (l1 : Nat) (l2 : Nat) (l3 : Nat) : Option Hp :=
  ck h 2 l0 (
    (sI h 2 l0 4 (0 : Int32)).bind fun h1 =>
    f_Merge_make_8 l0 l1 l2 l3 FU (0 : Int32) h1
  )
theorem o_Merge_make {h : Hp} {l0 : Nat} {l1 : Nat} {l2 : Nat} {l3 : Nat} {r : Hp} (hM : f_Merge_make h l0 l1 l2 l3 = some r) : isO h 2 l0 = true := by
  unfold f_Merge_make at hM
  exact (ck_some hM).1
set_option maxHeartbeats 4000000 in
set_option maxRecDepth 100000 in
theorem t_Merge_make {h : Hp} {l0 : Nat} {l1 : Nat} {l2 : Nat} {l3 : Nat} {r : Hp} (C : Cx base D cI cZ b_Merge_make 5 "MovedFolders$Merge" "make" none p s m args meth c) (hM : f_Merge_make h l0 l1 l2 l3 = some r) (H : Heap) (locs : List Loc) (ls : Array Slot) (hS : RS base D cI cZ s H locs h) (hl : lv_has ls 5 [(0, .ref (base + l0)), (1, .ref (base + l1)), (2, .ref (base + l2)), (3, .ref (base + l3))]) : Wg l base D cI cZ 4 113 0 0 r none p e s m args below meth c H locs 0 0 (F0 m 0 ls []) := by
  have hx := C.1
  have hb := C.2.1
  unfold f_Merge_make at hM
  replace hM := (ck_some hM).2
  refine lv_aload_n hx hb d_Merge_make_0 rfl (lv_at hl 0 rfl) ?_
  refine lv_iconst (v := (0 : Int32)) hx hb d_Merge_make_1 (by decide) ?_
  obtain ⟨h1, eh1, hM⟩ := bS hM
  refine r_putI C hS fp_Merge_24 eh1 d_Merge_make_2 (fun H locs hS => ?_)
  refine lv_iconst (v := (0 : Int32)) hx hb d_Merge_make_5 (by decide) ?_
  refine lv_istore (lv' := [(4, .int (0 : Int32)), (0, .ref (base + l0)), (1, .ref (base + l1)), (2, .ref (base + l2)), (3, .ref (base + l3))]) hx hb d_Merge_make_6 hl (by decide) rfl (fun ls hl => ?_)
  exact t_Merge_make_8  C  FU (0 : Int32) h1 hM _ _ _ hS (lv_sub hl [1, 2, 3, 4, 0] rfl)
theorem c_Merge_make (l : Launch) (base : Nat) (D : va_G) (cI cZ : ClassId) (h : Hp) (l0 : Nat) (l1 : Nat) (l2 : Nat) (l3 : Nat) {r : Hp} (hM : f_Merge_make h l0 l1 l2 l3 = some r) : Ct l base D cI cZ y_Merge_make b_Merge_make 5 none 4 113 0 0 h [.ref (base + l0), .ref (base + l1), .ref (base + l2), .ref (base + l3)] r none :=
  ct_of (by decide) (Nat.le_of_ble_eq_true rfl) (fun p e s m below meth c ls C hS hl => t_Merge_make C hM _ _ _ hS hl)
theorem d_Moves_init_0 : decode b_Moves_init 0 = .ok (.aload_n 0, 1) := by decide +kernel
theorem d_Moves_init_1 : decode b_Moves_init 1 = .ok (.invokespecial 3, 3) := by decide +kernel
theorem d_Moves_init_4 : decode b_Moves_init 4 = .ok (.aload_n 0, 1) := by decide +kernel
theorem d_Moves_init_5 : decode b_Moves_init 5 = .ok (.bipush 12, 2) := by decide +kernel
theorem d_Moves_init_7 : decode b_Moves_init 7 = .ok (.newarray .int, 2) := by decide +kernel
theorem d_Moves_init_9 : decode b_Moves_init 9 = .ok (.putfield 9, 3) := by decide +kernel
theorem d_Moves_init_12 : decode b_Moves_init 12 = .ok (.aload_n 0, 1) := by decide +kernel
theorem d_Moves_init_13 : decode b_Moves_init 13 = .ok (.bipush 12, 2) := by decide +kernel
theorem d_Moves_init_15 : decode b_Moves_init 15 = .ok (.newarray .int, 2) := by decide +kernel
theorem d_Moves_init_17 : decode b_Moves_init 17 = .ok (.putfield 15, 3) := by decide +kernel
theorem d_Moves_init_20 : decode b_Moves_init 20 = .ok (.aload_n 0, 1) := by decide +kernel
theorem d_Moves_init_21 : decode b_Moves_init 21 = .ok (.bipush 12, 2) := by decide +kernel
theorem d_Moves_init_23 : decode b_Moves_init 23 = .ok (.newarray .boolean, 2) := by decide +kernel
theorem d_Moves_init_25 : decode b_Moves_init 25 = .ok (.putfield 18, 3) := by decide +kernel
theorem d_Moves_init_28 : decode b_Moves_init 28 = .ok (.aload_n 0, 1) := by decide +kernel
theorem d_Moves_init_29 : decode b_Moves_init 29 = .ok (.iconst 0, 1) := by decide +kernel
theorem d_Moves_init_30 : decode b_Moves_init 30 = .ok (.putfield 22, 3) := by decide +kernel
theorem d_Moves_init_33 : decode b_Moves_init 33 = .ok (.return_, 1) := by decide +kernel
def f_Moves_init (h : Hp) (l0 : Nat) : Option Hp :=
  ck h 3 l0 (
    (sR (h ++ [.inl (false, 12, fun _ => 0)]) 3 l0 0 h.length).bind fun h1 =>
    (sR (h1 ++ [.inl (false, 12, fun _ => 0)]) 3 l0 1 h1.length).bind fun h2 =>
    (sR (h2 ++ [.inl (true, 12, fun _ => 0)]) 3 l0 2 h2.length).bind fun h3 =>
    (sI h3 3 l0 3 (0 : Int32)).bind fun h4 =>
    some h4
  )
theorem o_Moves_init {h : Hp} {l0 : Nat} {r : Hp} (hM : f_Moves_init h l0 = some r) : isO h 3 l0 = true := by
  unfold f_Moves_init at hM
  exact (ck_some hM).1
set_option maxHeartbeats 4000000 in
set_option maxRecDepth 100000 in
theorem t_Moves_init {h : Hp} {l0 : Nat} {r : Hp} (C : Cx base D cI cZ b_Moves_init 1 "MovedFolders$Moves" "<init>" none p s m args meth c) (hM : f_Moves_init h l0 = some r) (H : Heap) (locs : List Loc) (ls : Array Slot) (hS : RS base D cI cZ s H locs h) (hl : lv_has ls 1 [(0, .ref (base + l0))]) : Wg l base D cI cZ 1 12 3 36 r none p e s m args below meth c H locs 0 0 (F0 m 0 ls []) := by
  have hx := C.1
  have hb := C.2.1
  unfold f_Moves_init at hM
  replace hM := (ck_some hM).2
  refine lv_aload_n hx hb d_Moves_init_0 rfl (lv_at hl 0 rfl) ?_
  refine r_obj C oi_Moves_3 hl.1 rfl ⟨(Nat.le_of_ble_eq_true rfl), (Nat.le_of_ble_eq_true rfl)⟩ d_Moves_init_1 ?_
  refine lv_aload_n hx hb d_Moves_init_4 rfl (lv_at hl 0 rfl) ?_
  refine lv_bipush (v := (12 : Int32)) hx hb d_Moves_init_5 (by decide) ?_
  refine r_newI (N := 12) C hS ac_int (by decide) (by decide) (Nat.le_of_ble_eq_true rfl) (Nat.le_of_ble_eq_true rfl) (Nat.le_of_ble_eq_true rfl) d_Moves_init_7 (fun H hS => ?_)
  obtain ⟨h1, eh1, hM⟩ := bS hM
  refine r_putF C hS fp_Moves_9 (fun q hq => by cases hq; rfl) eh1 rfl rfl d_Moves_init_9 (fun H locs hS => ?_)
  refine lv_aload_n hx hb d_Moves_init_12 rfl (lv_at hl 0 rfl) ?_
  refine lv_bipush (v := (12 : Int32)) hx hb d_Moves_init_13 (by decide) ?_
  refine r_newI (N := 12) C hS ac_int (by decide) (by decide) (Nat.le_of_ble_eq_true rfl) (Nat.le_of_ble_eq_true rfl) (Nat.le_of_ble_eq_true rfl) d_Moves_init_15 (fun H hS => ?_)
  obtain ⟨h2, eh2, hM⟩ := bS hM
  refine r_putF C hS fp_Moves_15 (fun q hq => by cases hq; rfl) eh2 rfl rfl d_Moves_init_17 (fun H locs hS => ?_)
  refine lv_aload_n hx hb d_Moves_init_20 rfl (lv_at hl 0 rfl) ?_
  refine lv_bipush (v := (12 : Int32)) hx hb d_Moves_init_21 (by decide) ?_
  refine r_newZ (N := 12) C hS ac_boolean (by decide) (by decide) (Nat.le_of_ble_eq_true rfl) (Nat.le_of_ble_eq_true rfl) (Nat.le_of_ble_eq_true rfl) d_Moves_init_23 (fun H hS => ?_)
  obtain ⟨h3, eh3, hM⟩ := bS hM
  refine r_putF C hS fp_Moves_18 (fun q hq => by cases hq; rfl) eh3 rfl rfl d_Moves_init_25 (fun H locs hS => ?_)
  refine lv_aload_n hx hb d_Moves_init_28 rfl (lv_at hl 0 rfl) ?_
  refine lv_iconst (v := (0 : Int32)) hx hb d_Moves_init_29 (by decide) ?_
  obtain ⟨h4, eh4, hM⟩ := bS hM
  refine r_putI C hS fp_Moves_22 eh4 d_Moves_init_30 (fun H locs hS => ?_)
  obtain rfl := Option.some.inj hM
  exact r_vret C hS d_Moves_init_33
theorem c_Moves_init (l : Launch) (base : Nat) (D : va_G) (cI cZ : ClassId) (h : Hp) (l0 : Nat) {r : Hp} (hM : f_Moves_init h l0 = some r) : Ct l base D cI cZ y_Moves_init b_Moves_init 1 none 1 12 3 36 h [.ref (base + l0)] r none :=
  ct_of (by decide) (Nat.le_of_ble_eq_true rfl) (fun p e s m below meth c ls C hS hl => t_Moves_init C hM _ _ _ hS hl)
theorem d_Moves_goesRound_0 : decode b_Moves_goesRound 0 = .ok (.aload_n 0, 1) := by decide +kernel
theorem d_Moves_goesRound_1 : decode b_Moves_goesRound 1 = .ok (.iload_n 1, 1) := by decide +kernel
theorem d_Moves_goesRound_2 : decode b_Moves_goesRound 2 = .ok (.invokevirtual 26, 3) := by decide +kernel
theorem d_Moves_goesRound_5 : decode b_Moves_goesRound 5 = .ok (.istore_n 2, 1) := by decide +kernel
theorem d_Moves_goesRound_6 : decode b_Moves_goesRound 6 = .ok (.iload_n 2, 1) := by decide +kernel
theorem d_Moves_goesRound_7 : decode b_Moves_goesRound 7 = .ok (.bipush (-6), 2) := by decide +kernel
theorem d_Moves_goesRound_9 : decode b_Moves_goesRound 9 = .ok (.if_icmp .eq 16, 3) := by decide +kernel
theorem d_Moves_goesRound_12 : decode b_Moves_goesRound 12 = .ok (.aload_n 0, 1) := by decide +kernel
theorem d_Moves_goesRound_13 : decode b_Moves_goesRound 13 = .ok (.getfield 18, 3) := by decide +kernel
theorem d_Moves_goesRound_16 : decode b_Moves_goesRound 16 = .ok (.iload_n 2, 1) := by decide +kernel
theorem d_Moves_goesRound_17 : decode b_Moves_goesRound 17 = .ok (.baload, 1) := by decide +kernel
theorem d_Moves_goesRound_18 : decode b_Moves_goesRound 18 = .ok (.ifCond .eq 7, 3) := by decide +kernel
theorem d_Moves_goesRound_21 : decode b_Moves_goesRound 21 = .ok (.iconst 1, 1) := by decide +kernel
theorem d_Moves_goesRound_22 : decode b_Moves_goesRound 22 = .ok (.goto 4, 3) := by decide +kernel
theorem d_Moves_goesRound_25 : decode b_Moves_goesRound 25 = .ok (.iconst 0, 1) := by decide +kernel
theorem d_Moves_goesRound_26 : decode b_Moves_goesRound 26 = .ok (.ireturn, 1) := by decide +kernel
def f_Moves_goesRound (h : Hp) (l0 : Nat) (l1 : Int32) : Option Int32 :=
  ck h 3 l0 (
    (f_Moves_placeOf h l0 l1).bind fun t1 =>
    (
      if t1 = (-6 : Int32) then (
        some (0 : Int32)
      ) else (
        (gR h 3 l0 2).bind fun t3 =>
        (gA h true t3 t1).bind fun t4 =>
        if t4 = (0 : Int32) then (
          some (0 : Int32)
        ) else (
          some (1 : Int32)
        )
      )
    ).bind fun t2 =>
    rz t2
  )
theorem o_Moves_goesRound {h : Hp} {l0 : Nat} {l1 : Int32} {r : Int32} (hM : f_Moves_goesRound h l0 l1 = some r) : isO h 3 l0 = true := by
  unfold f_Moves_goesRound at hM
  exact (ck_some hM).1
set_option maxHeartbeats 4000000 in
set_option maxRecDepth 100000 in
theorem t_Moves_goesRound {h : Hp} {l0 : Nat} {l1 : Int32} {r : Int32} (C : Cx base D cI cZ b_Moves_goesRound 3 "MovedFolders$Moves" "goesRound" (some .boolean) p s m args meth c) (hM : f_Moves_goesRound h l0 l1 = some r) (H : Heap) (locs : List Loc) (ls : Array Slot) (hS : RS base D cI cZ s H locs h) (hl : lv_has ls 3 [(0, .ref (base + l0)), (1, .int l1)]) : Wg l base D cI cZ 1 22 0 0 h (some (.int r)) p e s m args below meth c H locs 0 0 (F0 m 0 ls []) := by
  have hx := C.1
  have hb := C.2.1
  unfold f_Moves_goesRound at hM
  replace hM := (ck_some hM).2
  refine lv_aload_n hx hb d_Moves_goesRound_0 rfl (lv_at hl 0 rfl) ?_
  refine lv_iload_n hx hb d_Moves_goesRound_1 rfl (lv_at hl 1 rfl) ?_
  obtain ⟨t1, et1, hM⟩ := bS hM
  refine r_callVi (x := t1) C hS cv_Moves_26 (c_Moves_placeOf l base D cI cZ h l0 l1 et1) (o_Moves_placeOf et1) (rest := []) rfl hl.1 rfl (Nat.le_of_ble_eq_true rfl) ⟨(Nat.le_of_ble_eq_true rfl), (Nat.le_of_ble_eq_true rfl)⟩ ⟨(Nat.le_of_ble_eq_true rfl), (Nat.le_of_ble_eq_true rfl)⟩ d_Moves_goesRound_2 (fun H locs hS => ?_)
  refine lv_istore_n (lv' := [(2, .int t1), (0, .ref (base + l0)), (1, .int l1)]) hx hb d_Moves_goesRound_5 rfl hl (by decide) rfl (fun ls hl => ?_)
  refine lv_iload_n hx hb d_Moves_goesRound_6 rfl (lv_at hl 0 rfl) ?_
  refine lv_bipush (v := (-6 : Int32)) hx hb d_Moves_goesRound_7 (by decide) ?_
  obtain ⟨t2, et2, hM⟩ := bS hM
  have kJ26_1 : ∀ (H : Heap) (locs : List Loc) (ls : Array Slot), RS base D cI cZ s H locs h → lv_has ls 3 [] → Wg l base D cI cZ 1 22 0 0 h (some (.int r)) p e s m args below meth c H locs 0 0 (F0 m 26 ls [.int t2]) := by
    intro H locs ls hS hl
    exact r_zret C hS hM d_Moves_goesRound_26
  refine lv_icmp_eq (tgt := 25) hx hb d_Moves_goesRound_9 (by decide) (fun c9_2 => ?_) (fun c9_2 => ?_)
  · rw [if_pos c9_2] at et2
    refine lv_iconst (v := (0 : Int32)) hx hb d_Moves_goesRound_25 (by decide) ?_
    obtain rfl := Option.some.inj et2
    exact kJ26_1 _ _ _ hS (lv_sub hl [] rfl)
  · rw [if_neg c9_2] at et2
    refine lv_aload_n hx hb d_Moves_goesRound_12 rfl (lv_at hl 1 rfl) ?_
    obtain ⟨t3, et3, et2⟩ := bS et2
    refine r_getR C hS fl_Moves_18 et3 d_Moves_goesRound_13 ?_
    refine lv_iload_n hx hb d_Moves_goesRound_16 rfl (lv_at hl 0 rfl) ?_
    obtain ⟨t4, et4, et2⟩ := bS et2
    refine r_zald C hS et4 d_Moves_goesRound_17 ?_
    refine lv_if_eq (tgt := 25) hx hb d_Moves_goesRound_18 (by decide) (fun c18_3 => ?_) (fun c18_3 => ?_)
    · rw [if_pos c18_3] at et2
      refine lv_iconst (v := (0 : Int32)) hx hb d_Moves_goesRound_25 (by decide) ?_
      obtain rfl := Option.some.inj et2
      exact kJ26_1 _ _ _ hS (lv_sub hl [] rfl)
    · rw [if_neg c18_3] at et2
      refine lv_iconst (v := (1 : Int32)) hx hb d_Moves_goesRound_21 (by decide) ?_
      refine lv_goto (tgt := 26) hx hb d_Moves_goesRound_22 (by decide) ?_
      obtain rfl := Option.some.inj et2
      exact kJ26_1 _ _ _ hS (lv_sub hl [] rfl)
theorem c_Moves_goesRound (l : Launch) (base : Nat) (D : va_G) (cI cZ : ClassId) (h : Hp) (l0 : Nat) (l1 : Int32) {r : Int32} (hM : f_Moves_goesRound h l0 l1 = some r) : Ct l base D cI cZ y_Moves_goesRound b_Moves_goesRound 3 (some .boolean) 1 22 0 0 h [.ref (base + l0), .int l1] h (some (.int r)) :=
  ct_of (by decide) (Nat.le_of_ble_eq_true rfl) (fun p e s m below meth c ls C hS hl => t_Moves_goesRound C hM _ _ _ hS hl)
theorem d_Tree_folderAt_0 : decode b_Tree_folderAt 0 = .ok (.aload_n 0, 1) := by decide +kernel
theorem d_Tree_folderAt_1 : decode b_Tree_folderAt 1 = .ok (.iload_n 1, 1) := by decide +kernel
theorem d_Tree_folderAt_2 : decode b_Tree_folderAt 2 = .ok (.invokevirtual 22, 3) := by decide +kernel
theorem d_Tree_folderAt_5 : decode b_Tree_folderAt 5 = .ok (.ifCond .eq 15, 3) := by decide +kernel
theorem d_Tree_folderAt_8 : decode b_Tree_folderAt 8 = .ok (.aload_n 0, 1) := by decide +kernel
theorem d_Tree_folderAt_9 : decode b_Tree_folderAt 9 = .ok (.getfield 9, 3) := by decide +kernel
theorem d_Tree_folderAt_12 : decode b_Tree_folderAt 12 = .ok (.iload_n 1, 1) := by decide +kernel
theorem d_Tree_folderAt_13 : decode b_Tree_folderAt 13 = .ok (.iaload, 1) := by decide +kernel
theorem d_Tree_folderAt_14 : decode b_Tree_folderAt 14 = .ok (.invokestatic 26, 3) := by decide +kernel
theorem d_Tree_folderAt_17 : decode b_Tree_folderAt 17 = .ok (.goto 5, 3) := by decide +kernel
theorem d_Tree_folderAt_20 : decode b_Tree_folderAt 20 = .ok (.bipush (-6), 2) := by decide +kernel
theorem d_Tree_folderAt_22 : decode b_Tree_folderAt 22 = .ok (.ireturn, 1) := by decide +kernel
def f_Tree_folderAt (h : Hp) (l0 : Nat) (l1 : Int32) : Option Int32 :=
  ck h 7 l0 (
    (f_Tree_has h l0 l1).bind fun t1 =>
    (
      if t1 = (0 : Int32) then (
        some (-6 : Int32)
      ) else (
        (gR h 7 l0 0).bind fun t3 =>
        (gA h false t3 l1).bind fun t4 =>
        (f_Letters_folderOf t4).bind fun t5 =>
        some t5
      )
    ).bind fun t2 =>
    some t2
  )
theorem o_Tree_folderAt {h : Hp} {l0 : Nat} {l1 : Int32} {r : Int32} (hM : f_Tree_folderAt h l0 l1 = some r) : isO h 7 l0 = true := by
  unfold f_Tree_folderAt at hM
  exact (ck_some hM).1
set_option maxHeartbeats 4000000 in
set_option maxRecDepth 100000 in
theorem t_Tree_folderAt {h : Hp} {l0 : Nat} {l1 : Int32} {r : Int32} (C : Cx base D cI cZ b_Tree_folderAt 2 "MovedFolders$Tree" "folderAt" (some .int) p s m args meth c) (hM : f_Tree_folderAt h l0 l1 = some r) (H : Heap) (locs : List Loc) (ls : Array Slot) (hS : RS base D cI cZ s H locs h) (hl : lv_has ls 2 [(0, .ref (base + l0)), (1, .int l1)]) : Wg l base D cI cZ 1 21 0 0 h (some (.int r)) p e s m args below meth c H locs 0 0 (F0 m 0 ls []) := by
  have hx := C.1
  have hb := C.2.1
  unfold f_Tree_folderAt at hM
  replace hM := (ck_some hM).2
  refine lv_aload_n hx hb d_Tree_folderAt_0 rfl (lv_at hl 0 rfl) ?_
  refine lv_iload_n hx hb d_Tree_folderAt_1 rfl (lv_at hl 1 rfl) ?_
  obtain ⟨t1, et1, hM⟩ := bS hM
  refine r_callVi (x := t1) C hS cv_Tree_22 (c_Tree_has l base D cI cZ h l0 l1 et1) (o_Tree_has et1) (rest := []) rfl hl.1 rfl (Nat.le_of_ble_eq_true rfl) ⟨(Nat.le_of_ble_eq_true rfl), (Nat.le_of_ble_eq_true rfl)⟩ ⟨(Nat.le_of_ble_eq_true rfl), (Nat.le_of_ble_eq_true rfl)⟩ d_Tree_folderAt_2 (fun H locs hS => ?_)
  obtain ⟨t2, et2, hM⟩ := bS hM
  have kJ22_1 : ∀ (H : Heap) (locs : List Loc) (ls : Array Slot), RS base D cI cZ s H locs h → lv_has ls 2 [] → Wg l base D cI cZ 1 21 0 0 h (some (.int r)) p e s m args below meth c H locs 0 0 (F0 m 22 ls [.int t2]) := by
    intro H locs ls hS hl
    obtain rfl := Option.some.inj hM
    exact r_iret C hS d_Tree_folderAt_22
  refine lv_if_eq (tgt := 20) hx hb d_Tree_folderAt_5 (by decide) (fun c5_2 => ?_) (fun c5_2 => ?_)
  · rw [if_pos c5_2] at et2
    refine lv_bipush (v := (-6 : Int32)) hx hb d_Tree_folderAt_20 (by decide) ?_
    obtain rfl := Option.some.inj et2
    exact kJ22_1 _ _ _ hS (lv_sub hl [] rfl)
  · rw [if_neg c5_2] at et2
    refine lv_aload_n hx hb d_Tree_folderAt_8 rfl (lv_at hl 0 rfl) ?_
    obtain ⟨t3, et3, et2⟩ := bS et2
    refine r_getR C hS fl_Tree_9 et3 d_Tree_folderAt_9 ?_
    refine lv_iload_n hx hb d_Tree_folderAt_12 rfl (lv_at hl 1 rfl) ?_
    obtain ⟨t4, et4, et2⟩ := bS et2
    refine r_iald C hS et4 d_Tree_folderAt_13 ?_
    obtain ⟨t5, et5, et2⟩ := bS et2
    refine r_callSi (x := t5) C hS cs_Tree_26 (c_Letters_folderOf l base D cI cZ h t4 et5) (rest := []) rfl hl.1 rfl (Nat.le_of_ble_eq_true rfl) ⟨(Nat.le_of_ble_eq_true rfl), (Nat.le_of_ble_eq_true rfl)⟩ ⟨(Nat.le_of_ble_eq_true rfl), (Nat.le_of_ble_eq_true rfl)⟩ d_Tree_folderAt_14 (fun H locs hS => ?_)
    refine lv_goto (tgt := 22) hx hb d_Tree_folderAt_17 (by decide) ?_
    obtain rfl := Option.some.inj et2
    exact kJ22_1 _ _ _ hS (lv_sub hl [] rfl)
theorem c_Tree_folderAt (l : Launch) (base : Nat) (D : va_G) (cI cZ : ClassId) (h : Hp) (l0 : Nat) (l1 : Int32) {r : Int32} (hM : f_Tree_folderAt h l0 l1 = some r) : Ct l base D cI cZ y_Tree_folderAt b_Tree_folderAt 2 (some .int) 1 21 0 0 h [.ref (base + l0), .int l1] h (some (.int r)) :=
  ct_of (by decide) (Nat.le_of_ble_eq_true rfl) (fun p e s m below meth c ls C hS hl => t_Tree_folderAt C hM _ _ _ hS hl)
theorem d_Tree_liesIn_0 : decode b_Tree_liesIn 0 = .ok (.iconst 0, 1) := by decide +kernel
theorem d_Tree_liesIn_1 : decode b_Tree_liesIn 1 = .ok (.istore_n 2, 1) := by decide +kernel
theorem d_Tree_liesIn_2 : decode b_Tree_liesIn 2 = .ok (.iload_n 2, 1) := by decide +kernel
theorem d_Tree_liesIn_3 : decode b_Tree_liesIn 3 = .ok (.aload_n 0, 1) := by decide +kernel
theorem d_Tree_liesIn_4 : decode b_Tree_liesIn 4 = .ok (.getfield 18, 3) := by decide +kernel
theorem d_Tree_liesIn_7 : decode b_Tree_liesIn 7 = .ok (.if_icmp .ge 20, 3) := by decide +kernel
theorem d_Tree_liesIn_10 : decode b_Tree_liesIn 10 = .ok (.aload_n 0, 1) := by decide +kernel
theorem d_Tree_liesIn_11 : decode b_Tree_liesIn 11 = .ok (.iload_n 2, 1) := by decide +kernel
theorem d_Tree_liesIn_12 : decode b_Tree_liesIn 12 = .ok (.invokevirtual 35, 3) := by decide +kernel
theorem d_Tree_liesIn_15 : decode b_Tree_liesIn 15 = .ok (.iload_n 1, 1) := by decide +kernel
theorem d_Tree_liesIn_16 : decode b_Tree_liesIn 16 = .ok (.if_icmp .ne 5, 3) := by decide +kernel
theorem d_Tree_liesIn_19 : decode b_Tree_liesIn 19 = .ok (.iconst 1, 1) := by decide +kernel
theorem d_Tree_liesIn_20 : decode b_Tree_liesIn 20 = .ok (.ireturn, 1) := by decide +kernel
theorem d_Tree_liesIn_21 : decode b_Tree_liesIn 21 = .ok (.iinc 2 1, 3) := by decide +kernel
theorem d_Tree_liesIn_24 : decode b_Tree_liesIn 24 = .ok (.goto (-22), 3) := by decide +kernel
theorem d_Tree_liesIn_27 : decode b_Tree_liesIn 27 = .ok (.iconst 0, 1) := by decide +kernel
theorem d_Tree_liesIn_28 : decode b_Tree_liesIn 28 = .ok (.ireturn, 1) := by decide +kernel
def f_Tree_liesIn_2 (h : Hp) (l0 : Nat) (l1 : Int32) : Nat → Int32 → Option Int32
  | 0, _ => none
  | n + 1, l2 =>
    (gI h 7 l0 2).bind fun t1 =>
    if t1 ≤ l2 then (
      rz (0 : Int32)
    ) else (
      (f_Tree_folderAt h l0 l2).bind fun t2 =>
      if t2 = l1 then (
        rz (1 : Int32)
      ) else (
        f_Tree_liesIn_2 h l0 l1 n (l2 + (1 : Int32))
      )
    )
set_option maxHeartbeats 4000000 in
set_option maxRecDepth 100000 in
theorem t_Tree_liesIn_2 {h : Hp} {l0 : Nat} {l1 : Int32} {r : Int32} (C : Cx base D cI cZ b_Tree_liesIn 3 "MovedFolders$Tree" "liesIn" (some .boolean) p s m args meth c)  : ∀ (n : Nat) (l2 : Int32), f_Tree_liesIn_2 h l0 l1 n l2 = some r → ∀ (H : Heap) (locs : List Loc) (ls : Array Slot), RS base D cI cZ s H locs h → lv_has ls 3 [(0, .ref (base + l0)), (1, .int l1), (2, .int l2)] → Wg l base D cI cZ 2 42 0 0 h (some (.int r)) p e s m args below meth c H locs 0 0 (F0 m 2 ls []) := by
  have hx := C.1
  have hb := C.2.1
  intro n
  induction n with
  | zero =>
    intro l2 hM
    rw [f_Tree_liesIn_2] at hM
    cases hM
  | succ n ih =>
    intro l2 hM H locs ls hS hl
    rw [f_Tree_liesIn_2] at hM
    refine lv_iload_n hx hb d_Tree_liesIn_2 rfl (lv_at hl 2 rfl) ?_
    refine lv_aload_n hx hb d_Tree_liesIn_3 rfl (lv_at hl 0 rfl) ?_
    obtain ⟨t1, et1, hM⟩ := bS hM
    refine r_getI C hS fl_Tree_18 et1 d_Tree_liesIn_4 ?_
    refine lv_icmp_ge (tgt := 27) hx hb d_Tree_liesIn_7 (by decide) (fun c7_1 => ?_) (fun c7_1 => ?_)
    · rw [if_pos c7_1] at hM
      refine lv_iconst (v := (0 : Int32)) hx hb d_Tree_liesIn_27 (by decide) ?_
      exact r_zret C hS hM d_Tree_liesIn_28
    · rw [if_neg c7_1] at hM
      refine lv_aload_n hx hb d_Tree_liesIn_10 rfl (lv_at hl 0 rfl) ?_
      refine lv_iload_n hx hb d_Tree_liesIn_11 rfl (lv_at hl 2 rfl) ?_
      obtain ⟨t2, et2, hM⟩ := bS hM
      refine r_callVi (x := t2) C hS cv_Tree_35 (c_Tree_folderAt l base D cI cZ h l0 l2 et2) (o_Tree_folderAt et2) (rest := []) rfl hl.1 rfl (Nat.le_of_ble_eq_true rfl) ⟨(Nat.le_of_ble_eq_true rfl), (Nat.le_of_ble_eq_true rfl)⟩ ⟨(Nat.le_of_ble_eq_true rfl), (Nat.le_of_ble_eq_true rfl)⟩ d_Tree_liesIn_12 (fun H locs hS => ?_)
      refine lv_iload_n hx hb d_Tree_liesIn_15 rfl (lv_at hl 1 rfl) ?_
      refine lv_icmp_ne (tgt := 21) hx hb d_Tree_liesIn_16 (by decide) (fun c16_2 => ?_) (fun c16_2 => ?_)
      · rw [if_neg c16_2] at hM
        refine lv_iinc (v := (l2 + (1 : Int32))) (lv' := [(2, .int (l2 + (1 : Int32))), (0, .ref (base + l0)), (1, .int l1)]) hx hb d_Tree_liesIn_21 hl (k := 2) rfl (by rw [oi_1]) (by decide) rfl (fun ls hl => ?_)
        refine lv_goto (tgt := 2) hx hb d_Tree_liesIn_24 (by decide) ?_
        exact ih (l2 + (1 : Int32)) hM _ _ _ hS (lv_sub hl [1, 2, 0] rfl)
      · rw [if_pos c16_2] at hM
        refine lv_iconst (v := (1 : Int32)) hx hb d_Tree_liesIn_19 (by decide) ?_
        exact r_zret C hS hM d_Tree_liesIn_20
def f_Tree_liesIn (h : Hp) (l0 : Nat) (l1 : Int32) : Option Int32 :=
  ck h 7 l0 (
    f_Tree_liesIn_2 h l0 l1 FU (0 : Int32)
  )
theorem o_Tree_liesIn {h : Hp} {l0 : Nat} {l1 : Int32} {r : Int32} (hM : f_Tree_liesIn h l0 l1 = some r) : isO h 7 l0 = true := by
  unfold f_Tree_liesIn at hM
  exact (ck_some hM).1
set_option maxHeartbeats 4000000 in
set_option maxRecDepth 100000 in
theorem t_Tree_liesIn {h : Hp} {l0 : Nat} {l1 : Int32} {r : Int32} (C : Cx base D cI cZ b_Tree_liesIn 3 "MovedFolders$Tree" "liesIn" (some .boolean) p s m args meth c) (hM : f_Tree_liesIn h l0 l1 = some r) (H : Heap) (locs : List Loc) (ls : Array Slot) (hS : RS base D cI cZ s H locs h) (hl : lv_has ls 3 [(0, .ref (base + l0)), (1, .int l1)]) : Wg l base D cI cZ 2 42 0 0 h (some (.int r)) p e s m args below meth c H locs 0 0 (F0 m 0 ls []) := by
  have hx := C.1
  have hb := C.2.1
  unfold f_Tree_liesIn at hM
  replace hM := (ck_some hM).2
  refine lv_iconst (v := (0 : Int32)) hx hb d_Tree_liesIn_0 (by decide) ?_
  refine lv_istore_n (lv' := [(2, .int (0 : Int32)), (0, .ref (base + l0)), (1, .int l1)]) hx hb d_Tree_liesIn_1 rfl hl (by decide) rfl (fun ls hl => ?_)
  exact t_Tree_liesIn_2  C  FU (0 : Int32) hM _ _ _ hS (lv_sub hl [1, 2, 0] rfl)
theorem c_Tree_liesIn (l : Launch) (base : Nat) (D : va_G) (cI cZ : ClassId) (h : Hp) (l0 : Nat) (l1 : Int32) {r : Int32} (hM : f_Tree_liesIn h l0 l1 = some r) : Ct l base D cI cZ y_Tree_liesIn b_Tree_liesIn 3 (some .boolean) 2 42 0 0 h [.ref (base + l0), .int l1] h (some (.int r)) :=
  ct_of (by decide) (Nat.le_of_ble_eq_true rfl) (fun p e s m below meth c ls C hS hl => t_Tree_liesIn C hM _ _ _ hS hl)
theorem d_Pairs_countWent_0 : decode b_Pairs_countWent 0 = .ok (.iconst 0, 1) := by decide +kernel
theorem d_Pairs_countWent_1 : decode b_Pairs_countWent 1 = .ok (.istore 5, 2) := by decide +kernel
theorem d_Pairs_countWent_3 : decode b_Pairs_countWent 3 = .ok (.iconst 0, 1) := by decide +kernel
theorem d_Pairs_countWent_4 : decode b_Pairs_countWent 4 = .ok (.istore 6, 2) := by decide +kernel
theorem d_Pairs_countWent_6 : decode b_Pairs_countWent 6 = .ok (.iload 6, 2) := by decide +kernel
theorem d_Pairs_countWent_8 : decode b_Pairs_countWent 8 = .ok (.aload_n 1, 1) := by decide +kernel
theorem d_Pairs_countWent_9 : decode b_Pairs_countWent 9 = .ok (.invokevirtual 24, 3) := by decide +kernel
theorem d_Pairs_countWent_12 : decode b_Pairs_countWent 12 = .ok (.if_icmp .ge 48, 3) := by decide +kernel
theorem d_Pairs_countWent_15 : decode b_Pairs_countWent 15 = .ok (.aload_n 0, 1) := by decide +kernel
theorem d_Pairs_countWent_16 : decode b_Pairs_countWent 16 = .ok (.iload 6, 2) := by decide +kernel
theorem d_Pairs_countWent_18 : decode b_Pairs_countWent 18 = .ok (.invokevirtual 30, 3) := by decide +kernel
theorem d_Pairs_countWent_21 : decode b_Pairs_countWent 21 = .ok (.istore 7, 2) := by decide +kernel
theorem d_Pairs_countWent_23 : decode b_Pairs_countWent 23 = .ok (.iload 7, 2) := by decide +kernel
theorem d_Pairs_countWent_25 : decode b_Pairs_countWent 25 = .ok (.bipush (-6), 2) := by decide +kernel
theorem d_Pairs_countWent_27 : decode b_Pairs_countWent 27 = .ok (.if_icmp .eq 27, 3) := by decide +kernel
theorem d_Pairs_countWent_30 : decode b_Pairs_countWent 30 = .ok (.aload_n 1, 1) := by decide +kernel
theorem d_Pairs_countWent_31 : decode b_Pairs_countWent 31 = .ok (.iload 6, 2) := by decide +kernel
theorem d_Pairs_countWent_33 : decode b_Pairs_countWent 33 = .ok (.invokevirtual 37, 3) := by decide +kernel
theorem d_Pairs_countWent_36 : decode b_Pairs_countWent 36 = .ok (.iload_n 3, 1) := by decide +kernel
theorem d_Pairs_countWent_37 : decode b_Pairs_countWent 37 = .ok (.if_icmp .ne 17, 3) := by decide +kernel
theorem d_Pairs_countWent_40 : decode b_Pairs_countWent 40 = .ok (.aload_n 2, 1) := by decide +kernel
theorem d_Pairs_countWent_41 : decode b_Pairs_countWent 41 = .ok (.iload 7, 2) := by decide +kernel
theorem d_Pairs_countWent_43 : decode b_Pairs_countWent 43 = .ok (.invokevirtual 37, 3) := by decide +kernel
theorem d_Pairs_countWent_46 : decode b_Pairs_countWent 46 = .ok (.iload 4, 2) := by decide +kernel
theorem d_Pairs_countWent_48 : decode b_Pairs_countWent 48 = .ok (.if_icmp .ne 6, 3) := by decide +kernel
theorem d_Pairs_countWent_51 : decode b_Pairs_countWent 51 = .ok (.iinc 5 1, 3) := by decide +kernel
theorem d_Pairs_countWent_54 : decode b_Pairs_countWent 54 = .ok (.iinc 6 1, 3) := by decide +kernel
theorem d_Pairs_countWent_57 : decode b_Pairs_countWent 57 = .ok (.goto (-51), 3) := by decide +kernel
theorem d_Pairs_countWent_60 : decode b_Pairs_countWent 60 = .ok (.iload 5, 2) := by decide +kernel
theorem d_Pairs_countWent_62 : decode b_Pairs_countWent 62 = .ok (.ireturn, 1) := by decide +kernel
def f_Pairs_countWent_6 (h : Hp) (l0 : Nat) (l1 : Nat) (l2 : Nat) (l3 : Int32) (l4 : Int32) : Nat → Int32 → Int32 → Option Int32
  | 0, _, _ => none
  | n + 1, l5, l6 =>
    (f_Tree_size h l1).bind fun t1 =>
    if t1 ≤ l6 then (
      some l5
    ) else (
      (f_Pairs_mateOf h l0 l6).bind fun t2 =>
      (
        if t2 = (-6 : Int32) then (
          some l5
        ) else (
          (f_Tree_folderAt h l1 l6).bind fun t4 =>
          if t4 = l3 then (
            (f_Tree_folderAt h l2 t2).bind fun t5 =>
            if t5 = l4 then (
              some (l5 + (1 : Int32))
            ) else (
              some l5
            )
          ) else (
            some l5
          )
        )
      ).bind fun t3 =>
      f_Pairs_countWent_6 h l0 l1 l2 l3 l4 n t3 (l6 + (1 : Int32))
    )
set_option maxHeartbeats 4000000 in
set_option maxRecDepth 100000 in
theorem t_Pairs_countWent_6 {h : Hp} {l0 : Nat} {l1 : Nat} {l2 : Nat} {l3 : Int32} {l4 : Int32} {r : Int32} (C : Cx base D cI cZ b_Pairs_countWent 8 "MovedFolders$Pairs" "countWent" (some .int) p s m args meth c)  : ∀ (n : Nat) (l5 : Int32) (l6 : Int32), f_Pairs_countWent_6 h l0 l1 l2 l3 l4 n l5 l6 = some r → ∀ (H : Heap) (locs : List Loc) (ls : Array Slot), RS base D cI cZ s H locs h → lv_has ls 8 [(0, .ref (base + l0)), (1, .ref (base + l1)), (2, .ref (base + l2)), (3, .int l3), (4, .int l4), (5, .int l5), (6, .int l6)] → Wg l base D cI cZ 2 42 0 0 h (some (.int r)) p e s m args below meth c H locs 0 0 (F0 m 6 ls []) := by
  have hx := C.1
  have hb := C.2.1
  intro n
  induction n with
  | zero =>
    intro l5 l6 hM
    rw [f_Pairs_countWent_6] at hM
    cases hM
  | succ n ih =>
    intro l5 l6 hM H locs ls hS hl
    rw [f_Pairs_countWent_6] at hM
    refine lv_iload hx hb d_Pairs_countWent_6 (lv_at hl 6 rfl) ?_
    refine lv_aload_n hx hb d_Pairs_countWent_8 rfl (lv_at hl 1 rfl) ?_
    obtain ⟨t1, et1, hM⟩ := bS hM
    refine r_callVi (x := t1) C hS cv_Pairs_24 (c_Tree_size l base D cI cZ h l1 et1) (o_Tree_size et1) (rest := [.int l6]) rfl hl.1 rfl (Nat.le_of_ble_eq_true rfl) ⟨(Nat.le_of_ble_eq_true rfl), (Nat.le_of_ble_eq_true rfl)⟩ ⟨(Nat.le_of_ble_eq_true rfl), (Nat.le_of_ble_eq_true rfl)⟩ d_Pairs_countWent_9 (fun H locs hS => ?_)
    refine lv_icmp_ge (tgt := 60) hx hb d_Pairs_countWent_12 (by decide) (fun c12_1 => ?_) (fun c12_1 => ?_)
    · rw [if_pos c12_1] at hM
      refine lv_iload hx hb d_Pairs_countWent_60 (lv_at hl 5 rfl) ?_
      obtain rfl := Option.some.inj hM
      exact r_iret C hS d_Pairs_countWent_62
    · rw [if_neg c12_1] at hM
      refine lv_aload_n hx hb d_Pairs_countWent_15 rfl (lv_at hl 0 rfl) ?_
      refine lv_iload hx hb d_Pairs_countWent_16 (lv_at hl 6 rfl) ?_
      obtain ⟨t2, et2, hM⟩ := bS hM
      refine r_callVi (x := t2) C hS cv_Pairs_30 (c_Pairs_mateOf l base D cI cZ h l0 l6 et2) (o_Pairs_mateOf et2) (rest := []) rfl hl.1 rfl (Nat.le_of_ble_eq_true rfl) ⟨(Nat.le_of_ble_eq_true rfl), (Nat.le_of_ble_eq_true rfl)⟩ ⟨(Nat.le_of_ble_eq_true rfl), (Nat.le_of_ble_eq_true rfl)⟩ d_Pairs_countWent_18 (fun H locs hS => ?_)
      refine lv_istore (lv' := [(7, .int t2), (0, .ref (base + l0)), (1, .ref (base + l1)), (2, .ref (base + l2)), (3, .int l3), (4, .int l4), (5, .int l5), (6, .int l6)]) hx hb d_Pairs_countWent_21 hl (by decide) rfl (fun ls hl => ?_)
      refine lv_iload hx hb d_Pairs_countWent_23 (lv_at hl 0 rfl) ?_
      refine lv_bipush (v := (-6 : Int32)) hx hb d_Pairs_countWent_25 (by decide) ?_
      obtain ⟨t3, et3, hM⟩ := bS hM
      have kJ54_2 : ∀ (H : Heap) (locs : List Loc) (ls : Array Slot), RS base D cI cZ s H locs h → lv_has ls 8 [(0, .ref (base + l0)), (1, .ref (base + l1)), (2, .ref (base + l2)), (3, .int l3), (4, .int l4), (5, .int t3), (6, .int l6)] → Wg l base D cI cZ 2 42 0 0 h (some (.int r)) p e s m args below meth c H locs 0 0 (F0 m 54 ls []) := by
        intro H locs ls hS hl
        refine lv_iinc (v := (l6 + (1 : Int32))) (lv' := [(6, .int (l6 + (1 : Int32))), (0, .ref (base + l0)), (1, .ref (base + l1)), (2, .ref (base + l2)), (3, .int l3), (4, .int l4), (5, .int t3)]) hx hb d_Pairs_countWent_54 hl (k := 6) rfl (by rw [oi_1]) (by decide) rfl (fun ls hl => ?_)
        refine lv_goto (tgt := 6) hx hb d_Pairs_countWent_57 (by decide) ?_
        exact ih t3 (l6 + (1 : Int32)) hM _ _ _ hS (lv_sub hl [1, 2, 3, 4, 5, 6, 0] rfl)
      refine lv_icmp_eq (tgt := 54) hx hb d_Pairs_countWent_27 (by decide) (fun c27_3 => ?_) (fun c27_3 => ?_)
      · rw [if_pos c27_3] at et3
        obtain rfl := Option.some.inj et3
        exact kJ54_2 _ _ _ hS (lv_sub hl [1, 2, 3, 4, 5, 6, 7] rfl)
      · rw [if_neg c27_3] at et3
        refine lv_aload_n hx hb d_Pairs_countWent_30 rfl (lv_at hl 2 rfl) ?_
        refine lv_iload hx hb d_Pairs_countWent_31 (lv_at hl 7 rfl) ?_
        obtain ⟨t4, et4, et3⟩ := bS et3
        refine r_callVi (x := t4) C hS cv_Pairs_37 (c_Tree_folderAt l base D cI cZ h l1 l6 et4) (o_Tree_folderAt et4) (rest := []) rfl hl.1 rfl (Nat.le_of_ble_eq_true rfl) ⟨(Nat.le_of_ble_eq_true rfl), (Nat.le_of_ble_eq_true rfl)⟩ ⟨(Nat.le_of_ble_eq_true rfl), (Nat.le_of_ble_eq_true rfl)⟩ d_Pairs_countWent_33 (fun H locs hS => ?_)
        refine lv_iload_n hx hb d_Pairs_countWent_36 rfl (lv_at hl 4 rfl) ?_
        refine lv_icmp_ne (tgt := 54) hx hb d_Pairs_countWent_37 (by decide) (fun c37_4 => ?_) (fun c37_4 => ?_)
        · rw [if_neg c37_4] at et3
          obtain rfl := Option.some.inj et3
          exact kJ54_2 _ _ _ hS (lv_sub hl [1, 2, 3, 4, 5, 6, 7] rfl)
        · rw [if_pos c37_4] at et3
          refine lv_aload_n hx hb d_Pairs_countWent_40 rfl (lv_at hl 3 rfl) ?_
          refine lv_iload hx hb d_Pairs_countWent_41 (lv_at hl 0 rfl) ?_
          obtain ⟨t5, et5, et3⟩ := bS et3
          refine r_callVi (x := t5) C hS cv_Pairs_37 (c_Tree_folderAt l base D cI cZ h l2 t2 et5) (o_Tree_folderAt et5) (rest := []) rfl hl.1 rfl (Nat.le_of_ble_eq_true rfl) ⟨(Nat.le_of_ble_eq_true rfl), (Nat.le_of_ble_eq_true rfl)⟩ ⟨(Nat.le_of_ble_eq_true rfl), (Nat.le_of_ble_eq_true rfl)⟩ d_Pairs_countWent_43 (fun H locs hS => ?_)
          refine lv_iload hx hb d_Pairs_countWent_46 (lv_at hl 5 rfl) ?_
          refine lv_icmp_ne (tgt := 54) hx hb d_Pairs_countWent_48 (by decide) (fun c48_5 => ?_) (fun c48_5 => ?_)
          · rw [if_neg c48_5] at et3
            obtain rfl := Option.some.inj et3
            exact kJ54_2 _ _ _ hS (lv_sub hl [1, 2, 3, 4, 5, 6, 7] rfl)
          · rw [if_pos c48_5] at et3
            refine lv_iinc (v := (l5 + (1 : Int32))) (lv' := [(5, .int (l5 + (1 : Int32))), (7, .int t2), (0, .ref (base + l0)), (1, .ref (base + l1)), (2, .ref (base + l2)), (3, .int l3), (4, .int l4), (6, .int l6)]) hx hb d_Pairs_countWent_51 hl (k := 6) rfl (by rw [oi_1]) (by decide) rfl (fun ls hl => ?_)
            obtain rfl := Option.some.inj et3
            exact kJ54_2 _ _ _ hS (lv_sub hl [2, 3, 4, 5, 6, 0, 7] rfl)
def f_Pairs_countWent (h : Hp) (l0 : Nat) (l1 : Nat) (l2 : Nat) (l3 : Int32) (l4 : Int32) : Option Int32 :=
  ck h 5 l0 (
    f_Pairs_countWent_6 h l0 l1 l2 l3 l4 FU (0 : Int32) (0 : Int32)
  )
theorem o_Pairs_countWent {h : Hp} {l0 : Nat} {l1 : Nat} {l2 : Nat} {l3 : Int32} {l4 : Int32} {r : Int32} (hM : f_Pairs_countWent h l0 l1 l2 l3 l4 = some r) : isO h 5 l0 = true := by
  unfold f_Pairs_countWent at hM
  exact (ck_some hM).1
set_option maxHeartbeats 4000000 in
set_option maxRecDepth 100000 in
theorem t_Pairs_countWent {h : Hp} {l0 : Nat} {l1 : Nat} {l2 : Nat} {l3 : Int32} {l4 : Int32} {r : Int32} (C : Cx base D cI cZ b_Pairs_countWent 8 "MovedFolders$Pairs" "countWent" (some .int) p s m args meth c) (hM : f_Pairs_countWent h l0 l1 l2 l3 l4 = some r) (H : Heap) (locs : List Loc) (ls : Array Slot) (hS : RS base D cI cZ s H locs h) (hl : lv_has ls 8 [(0, .ref (base + l0)), (1, .ref (base + l1)), (2, .ref (base + l2)), (3, .int l3), (4, .int l4)]) : Wg l base D cI cZ 2 42 0 0 h (some (.int r)) p e s m args below meth c H locs 0 0 (F0 m 0 ls []) := by
  have hx := C.1
  have hb := C.2.1
  unfold f_Pairs_countWent at hM
  replace hM := (ck_some hM).2
  refine lv_iconst (v := (0 : Int32)) hx hb d_Pairs_countWent_0 (by decide) ?_
  refine lv_istore (lv' := [(5, .int (0 : Int32)), (0, .ref (base + l0)), (1, .ref (base + l1)), (2, .ref (base + l2)), (3, .int l3), (4, .int l4)]) hx hb d_Pairs_countWent_1 hl (by decide) rfl (fun ls hl => ?_)
  refine lv_iconst (v := (0 : Int32)) hx hb d_Pairs_countWent_3 (by decide) ?_
  refine lv_istore (lv' := [(6, .int (0 : Int32)), (5, .int (0 : Int32)), (0, .ref (base + l0)), (1, .ref (base + l1)), (2, .ref (base + l2)), (3, .int l3), (4, .int l4)]) hx hb d_Pairs_countWent_4 hl (by decide) rfl (fun ls hl => ?_)
  exact t_Pairs_countWent_6  C  FU (0 : Int32) (0 : Int32) hM _ _ _ hS (lv_sub hl [2, 3, 4, 5, 6, 1, 0] rfl)
theorem c_Pairs_countWent (l : Launch) (base : Nat) (D : va_G) (cI cZ : ClassId) (h : Hp) (l0 : Nat) (l1 : Nat) (l2 : Nat) (l3 : Int32) (l4 : Int32) {r : Int32} (hM : f_Pairs_countWent h l0 l1 l2 l3 l4 = some r) : Ct l base D cI cZ y_Pairs_countWent b_Pairs_countWent 8 (some .int) 2 42 0 0 h [.ref (base + l0), .ref (base + l1), .ref (base + l2), .int l3, .int l4] h (some (.int r)) :=
  ct_of (by decide) (Nat.le_of_ble_eq_true rfl) (fun p e s m below meth c ls C hS hl => t_Pairs_countWent C hM _ _ _ hS hl)
end MM2
