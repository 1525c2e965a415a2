set_option maxRecDepth 1000000 in
set_option maxHeartbeats 20000000 in
theorem start_len : (f_MF_init ([] ++ [.inr (8, [.null, .null, .null, .null, .null, .null, .null, .null, .null, .int 0])]) 0).bind (fun h1 => some h1.length) = some 64 := by
  rfl
theorem law_pure {L : Nat} {xs : Nat → Int32} (hL : L ≤ 2560) : f_Law_law xs L [] = some 1 := by
  have a := start_W
  have b := start_len
  unfold f_Law_law
  rw [show ([] : Hp).length = 0 from rfl]
  cases e : f_MF_init ([] ++ [.inr (8, [.null, .null, .null, .null, .null, .null, .null, .null, .null, .int 0])]) 0 with
  | none => rw [e] at b; cases b
  | some h1 =>
    rw [e, sb] at a b
    have hl : h1.length = 64 := Option.some.inj b
    rw [sb]
    rw [a, sb, hl, show (0 : Int32) = nI 0 from rfl]
    exact law_loop hL FU 0 _ _ _ Inv0 (Nat.zero_le L) (by rw [FU_eq]; omega)
